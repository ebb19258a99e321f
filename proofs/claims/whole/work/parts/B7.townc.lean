/-! ===== mm: a town, class side ===== -/
theorem tw0 : ∀ m : Nat, m ≠ 0 → tWn m 0 = false
  | 0, h => absurd rfl h
  | 1, _ => by decide
  | 2, _ => by decide
  | _ + 3, _ => rfl
theorem tw3 (k : Int) : tWn 3 k = false := rfl
theorem getD_out {α : Type} (l : List α) (d : α) {i : Nat} (h : l.length ≤ i) : l.getD i d = d := by
  rw [List.getD_eq_getElem?_getD, List.getElem?_eq_none h]
  rfl
theorem len336 : tFLA.length = 336 ∧ tFLB.length = 336 ∧ tFLM.length = 336 := by decide +kernel
theorem k100 : ∀ j : Fin 336, ((tbS.getD j.val (99, 0)).1 == 100) = true → tFLA.getD j.val [] = [] ∧ tFLB.getD j.val [] = [] ∧ tFLM.getD j.val [] = [] := by decide +kernel
theorem f100A (k i : Int) (h : (tSh k).1 = 100) : tFA k i = none := by
  unfold tSh at h
  unfold tFA
  by_cases q : k < 0
  · rw [if_pos q]
  · rw [if_neg q] at h ⊢
    by_cases q2 : k.toNat < 336
    · rw [(k100 ⟨k.toNat, q2⟩ (by show ((tbS.getD k.toNat (99, 0)).1 == 100) = true; rw [h]; rfl)).1]
      rfl
    · rw [getD_out _ _ (by rw [len336.1]; omega)]
      rfl
theorem f100B (k i : Int) (h : (tSh k).1 = 100) : tFB k i = none := by
  unfold tSh at h
  unfold tFB
  by_cases q : k < 0
  · rw [if_pos q]
  · rw [if_neg q] at h ⊢
    by_cases q2 : k.toNat < 336
    · rw [(k100 ⟨k.toNat, q2⟩ (by show ((tbS.getD k.toNat (99, 0)).1 == 100) = true; rw [h]; rfl)).2.1]
      rfl
    · rw [getD_out _ _ (by rw [len336.2.1]; omega)]
      rfl
theorem f100M (k i : Int) (h : (tSh k).1 = 100) : tFM k i = none := by
  unfold tSh at h
  unfold tFM
  by_cases q : k < 0
  · rw [if_pos q]
  · rw [if_neg q] at h ⊢
    by_cases q2 : k.toNat < 336
    · rw [(k100 ⟨k.toNat, q2⟩ (by show ((tbS.getD k.toNat (99, 0)).1 == 100) = true; rw [h]; rfl)).2.2]
      rfl
    · rw [getD_out _ _ (by rw [len336.2.2]; omega)]
      rfl
/-- what is known is forgotten, but for the outcome -/
theorem q_up {f : Int → Int → Option Int} (hf : ∀ k i, (tSh k).1 = 100 → f k i = none) {d mi : Nat} {as : List Int} {h : mmH} {Q : Int → mmH → Prop} (hm : (tMp mi).2.2.2.2.2 ≠ 0) (hI : mmInv f h) (q : qC f d mi as h (fun x h' => mmInv f h' → Q x h')) : qC tFN d mi as h Q :=
  qC_mono (mmRC_up (fc0 := tFN) (fun _ _ _ e => by cases e) tw0 tw3 hf d mi as h _ hm hI q) (fun _ _ z => z.1 z.2.1)
def clrd (v : Int) (g g' : mmH) : Prop := Fr (fun k i => (k = v ∧ i ≤ 5) ∨ (v + 23 ≤ k ∧ k ≤ v + 32) ∨ (k = v + 33 ∧ i ≤ 1)) g g' ∧ g' v 0 = 0 ∧ g' v 1 = 0 ∧ g' v 2 = 0 ∧ g' v 3 = 0 ∧ g' v 4 = 5 ∧ g' v 5 = 0 ∧ g' (v + 33) 0 = 0 ∧ g' (v + 33) 1 = 0 ∧ ∀ a b, 0 ≤ a → a < 10 → 0 ≤ b → b < 10 → g' (v + 23 + a) b = -1
def opnd (v : Int) (g g' : mmH) : Prop := Fr (fun k i => (k = 3 ∧ i ≠ 5 ∧ i ≠ 7 ∧ i ≠ 8) ∨ (k = v ∧ i ≤ 5) ∨ (v + 23 ≤ k ∧ k ≤ v + 32) ∨ (k = v + 33 ∧ i ≤ 1)) g g' ∧ (g' 3 2 = 2 ∧ g' 3 3 = g 1 1 ∧ g' 3 4 = 0 ∧ g' 3 6 = -1 ∧ g' 3 0 = 0 ∧ g' 3 1 = -1) ∧ (g' v 0 = 0 ∧ g' v 1 = 0 ∧ g' v 2 = 0 ∧ g' v 3 = 0 ∧ g' v 4 = 5 ∧ g' v 5 = 0 ∧ g' (v + 33) 0 = 0 ∧ g' (v + 33) 1 = 0) ∧ ∀ a b, 0 ≤ a → a < 10 → 0 ≤ b → b < 10 → g' (v + 23 + a) b = -1
noncomputable def lpH (v : Int) : Nat → mmH → mmH
  | 0, g => g
  | m + 1, g => if skH g 3 0 = 0 ∧ skH g 3 4 < skH g 3 3 then lpH v m (stmF v (skH g)) else skH g
noncomputable def cnH (v : Int) : Nat → mmH → Int
  | 0, _ => 0
  | m + 1, g => if skH g 3 0 = 0 ∧ skH g 3 4 < skH g 3 3 then 1 + cnH v m (stmF v (skH g)) else 0
def clsH (g : mmH) : mmH := if skH g 3 0 = 0 ∧ skH g 3 4 < skH g 3 3 then flH 5 (skH g 3 4) (skH g) else skH g
def bgnd (v : Int) (g g' : mmH) : Prop := Fr (fun k _ => 86 ≤ k ∧ k ≤ 90) g g' ∧ g' 86 0 = 0 ∧ g' 86 1 = 0 ∧ g' 86 2 = 0 ∧ (∀ l, 0 ≤ l → l < g v 1 → g' 87 l = g (v + 5 + l) 2) ∧ (∀ p, 0 ≤ p → p < g v 3 → g' 88 p = g (v + 16 + p) 4 ∧ g' 89 p = g (v + 16 + p) 5) ∧ ∀ q, 0 ≤ q → q < 5 → g' 90 q = 0
noncomputable def eoT (v : Int) (g : mmH) : mmH := clsH (lpH v 80 g)
def townP (u v : Int) (g : mmH) (x : Int) (g' : mmH) (u' : Int) : Prop := ∃ g1, opnd v g g1 ∧
  ((eoT v (mmS g1 1 1 0) 3 0 ≠ 0 ∧ x = -1 ∧ g' = eoT v (mmS g1 1 1 0) ∧ u' = u) ∨ (eoT v (mmS g1 1 1 0) 3 0 = 0 ∧ x = cnH v 80 (mmS g1 1 1 0) ∧ (∃ g2, bgnd v (mmS (mmS (eoT v (mmS g1 1 1 0)) 3 7 u) 1 3 v) g2 ∧ g' = mmS g2 1 7 0) ∧ u' = v))
theorem cnH_ok (v : Int) : ∀ (m : Nat) (g : mmH), 0 ≤ cnH v m g ∧ cnH v m g ≤ m
  | 0, _ => by unfold cnH; omega
  | m + 1, g => by
    have := cnH_ok v m (stmF v (skH g))
    unfold cnH
    split <;> omega
section TNA
variable {d : Nat} {h m0 : mmH} {Q : Int → mmH → Prop} {m : Int}
theorem pA_clear (hy : ∀ h', clrd 46 h h' → Q 0 h') : qC tFA (d + 2) k_Town_clear [46] h Q := by
  refine qC_intro (TA46_Town_clear_0 _ _ _ _ _ ?_)
  have s0 : ∀ i, mmS (mmS (mmS (mmS (mmS (mmS h 46 0 0) 46 1 0) 46 2 0) 46 3 0) 46 4 5) 46 5 0 46 i = if i = 5 then 0 else if i = 4 then 5 else if i = 3 then 0 else if i = 2 then 0 else if i = 1 then 0 else if i = 0 then 0 else h 46 i := fun i => by
    rw [mmS_slot, mmS_slot, mmS_slot, mmS_slot, mmS_slot, mmS_slot]
  have fr0 : Fr (fun k i => (k = 46 ∧ i ≤ 5) ∨ (46 + 23 ≤ k ∧ k ≤ 46 + 32)) h (mmS (mmS (mmS (mmS (mmS (mmS h 46 0 0) 46 1 0) 46 2 0) 46 3 0) 46 4 5) 46 5 0) := (((((Fr.rf.put (by omega)).put (by omega)).put (by omega)).put (by omega)).put (by omega)).put (by omega)
  generalize hH : mmS (mmS (mmS (mmS (mmS (mmS h 46 0 0) 46 1 0) 46 2 0) 46 3 0) 46 4 5) 46 5 0 = h0 at s0 fr0 ⊢
  have key : ∀ (j k : Nat) (w : mmV) (g : mmH), k + j = 10 → Fr (fun k i => (k = 46 ∧ i ≤ 5) ∨ (46 + 23 ≤ k ∧ k ≤ 46 + 32)) h g → (∀ i, g 46 i = h0 46 i) → (∀ a b, 0 ≤ a → a < (k : Int) → 0 ≤ b → b < 10 → g (69 + a) b = -1) → qB tFA (d + 1) k_Town_clear (h 0 0) (h 0 1) Q 1 [(3, 46), (1, (k : Int)), w] [] g := by
    intro j
    induction j with
    | zero =>
      intro k w g hk fg e0 ea
      refine TA46_Town_clear_1 _ _ _ _ _ _ _ ⟨fun _ => qC_intro (TA79_Laws_clear_0 _ _ _ _ _ ?_), fun c => absurd (by omega) c⟩
      have ev : ∀ i, mmS (mmS g 79 0 0) 79 1 0 46 i = h0 46 i := fun i => by rw [mmS_cell (by omega), mmS_cell (by omega)]; exact e0 i
      refine hy _ ⟨((fg.mono (fun k i q => by omega)).put (by omega)).put (by omega), ?_, ?_, ?_, ?_, ?_, ?_, ?_, ?_, fun a b a1 a2 b1 b2 => ?_⟩
      · rw [ev, s0]; rfl
      · rw [ev, s0]; rfl
      · rw [ev, s0]; rfl
      · rw [ev, s0]; rfl
      · rw [ev, s0]; rfl
      · rw [ev, s0]; rfl
      · show mmS (mmS g 79 0 0) 79 1 0 79 0 = 0
        rw [mmS_slot, if_neg (by omega), mmS_slot, if_pos rfl]
      · show mmS (mmS g 79 0 0) 79 1 0 79 1 = 0
        rw [mmS_slot, if_pos rfl]
      · rw [mmS_cell (by omega), mmS_cell (by omega)]
        exact ea a b a1 (by omega) b1 b2
    | succ j ih =>
      intro k w g hk fg e0 ea
      refine TA46_Town_clear_1 _ _ _ _ _ _ _ ⟨fun c => absurd c (by omega), fun _ => ?_⟩
      have kb : ∀ (j2 k2 : Nat) (g : mmH), k2 + j2 = 10 → Fr (fun k i => (k = 46 ∧ i ≤ 5) ∨ (46 + 23 ≤ k ∧ k ≤ 46 + 32)) h g → (∀ i, g 46 i = h0 46 i) → (∀ a b, 0 ≤ a → a < (k : Int) → 0 ≤ b → b < 10 → g (69 + a) b = -1) → (∀ b, 0 ≤ b → b < (k2 : Int) → g (69 + (k : Int)) b = -1) → qB tFA (d + 1) k_Town_clear (h 0 0) (h 0 1) Q 2 [(3, 46), (1, (k : Int)), (1, (k2 : Int))] [] g := by
        intro j2
        induction j2 with
        | zero =>
          intro k2 g hk2 fg e0 ea eb
          refine TA46_Town_clear_2 _ _ _ _ _ _ _ ⟨fun _ => ?_, fun c => absurd (by omega) c⟩
          rw [mAdd_ok (by omega) (by omega), show (k : Int) + 1 = ((k + 1 : Nat) : Int) by omega]
          refine ih (k + 1) _ g (by omega) fg e0 (fun a b a1 a2 b1 b2 => ?_)
          by_cases e : a = k
          · rw [e]; exact eb b b1 (by omega)
          · exact ea a b a1 (by omega) b1 b2
        | succ j2 ih2 =>
          intro k2 g hk2 fg e0 ea eb
          refine TA46_Town_clear_2 _ _ _ _ _ _ _ ⟨fun c => absurd c (by omega), fun _ => ?_⟩
          simp (disch := omega) only [mmD_iff, mmG_iff, Bool.and_eq_true, Bool.or_eq_true, Nat.beq_refl, true_and, and_true, Option.getD_none, Option.isNone_none, decide_eq_true_eq, lc_lt0, lc_gt0, lc_le0, lc_ge0, lc_eq0, lc_ne0, ite_true, ite_false, fc_tFA_9, fn_tFA_9, fc_tFB_9, fn_tFB_9, sh_9, wn_9, fc_tFA_50, fn_tFA_50, fc_tFB_50, fn_tFB_50, sh_50, wn_50, fc_tFA_20, fn_tFA_20, fc_tFB_20, fn_tFB_20, sh_20, wn_20, fc_tFA_61, fn_tFA_61, fc_tFB_61, fn_tFB_61, sh_61, wn_61, fc_tFA_27, fn_tFA_27, fc_tFB_27, fn_tFB_27, sh_27, wn_27, fc_tFA_68, fn_tFA_68, fc_tFB_68, fn_tFB_68, sh_68, wn_68, fc_tFA_91, fn_tFA_91, fc_tFB_91, fn_tFB_91, sh_91, wn_91]
          rw [mAdd_ok (by omega) (by omega), show (k2 : Int) + 1 = ((k2 + 1 : Nat) : Int) by omega]
          refine ⟨by omega, by omega, ih2 (k2 + 1) _ (by omega) (fg.put (by omega)) (fun i => by rw [mmS_cell (by omega)]; exact e0 i) (fun a b a1 a2 b1 b2 => by rw [mmS_cell (by omega)]; exact ea a b a1 a2 b1 b2) (fun b b1 b2 => ?_)⟩
          rw [mmS_slot]
          by_cases e : b = k2
          · rw [if_pos e]
          · rw [if_neg e]; exact eb b b1 (by omega)
      exact kb 10 0 g (by omega) fg e0 ea (fun b b1 b2 => absurd b2 (by omega))
  exact key 10 0 _ h0 (by omega) fr0 (fun _ => rfl) (fun a b a1 a2 => absurd a2 (by omega))
theorem pA_open {n : Int} (n2 : n ≤ 1600) (hn : n = h 1 1) (hy : ∀ h', opnd 46 h h' → Q 0 h') : qC tFA (d + 3) k_TownText_open [3, 2, n] h Q := by
  refine qC_intro (TA_TownText_open_0 _ _ _ _ _ _ (pA_clear (fun h1 hc => hy _ ?_)))
  obtain ⟨c0, c1, c2, c3, c4, c5, c6, c7, c8, c9⟩ := hc
  have em : mMin n ((1600 : Nat) : Int) = h 1 1 := by unfold mMin; rw [if_neg (by omega)]; exact hn
  rw [em] at c0
  have o : ∀ k i, k ≠ 3 → mmS (mmS (mmS (mmS h1 3 4 0) 3 6 (-1)) 3 0 0) 3 1 (-1) k i = h1 k i := fun k i q => by rw [mmS_cell q, mmS_cell q, mmS_cell q, mmS_cell q]
  refine ⟨fun k i q => ?_, ⟨?_, ?_, ?_, ?_, ?_, ?_⟩, ⟨?_, ?_, ?_, ?_, ?_, ?_, ?_, ?_⟩, fun a b a1 a2 b1 b2 => ?_⟩
  · by_cases e : k = 3
    · subst e
      rw [mmS_slot, if_neg (by omega), mmS_slot, if_neg (by omega), mmS_slot, if_neg (by omega), mmS_slot, if_neg (by omega), c0 3 i (by omega), mmS_slot, if_neg (by omega), mmS_slot, if_neg (by omega)]
    · rw [o k i e, c0 k i (by omega), mmS_cell e, mmS_cell e]
  · rw [mmS_slot, if_neg (by omega), mmS_slot, if_neg (by omega), mmS_slot, if_neg (by omega), mmS_slot, if_neg (by omega), c0 3 2 (by omega), mmS_slot, if_neg (by omega), mmS_slot, if_pos rfl]
  · rw [mmS_slot, if_neg (by omega), mmS_slot, if_neg (by omega), mmS_slot, if_neg (by omega), mmS_slot, if_neg (by omega), c0 3 3 (by omega), mmS_slot, if_pos rfl]
  · rw [mmS_slot, if_neg (by omega), mmS_slot, if_neg (by omega), mmS_slot, if_neg (by omega), mmS_slot, if_pos rfl]
  · rw [mmS_slot, if_neg (by omega), mmS_slot, if_neg (by omega), mmS_slot, if_pos rfl]
  · rw [mmS_slot, if_neg (by omega), mmS_slot, if_pos rfl]
  · rw [mmS_slot, if_pos rfl]
  · rw [o _ _ (by omega)]; exact c1
  · rw [o _ _ (by omega)]; exact c2
  · rw [o _ _ (by omega)]; exact c3
  · rw [o _ _ (by omega)]; exact c4
  · rw [o _ _ (by omega)]; exact c5
  · rw [o _ _ (by omega)]; exact c6
  · rw [o _ _ (by omega)]; exact c7
  · rw [o _ _ (by omega)]; exact c8
  · rw [o _ _ (by omega)]; exact c9 a b a1 a2 b1 b2
theorem pA_close (hS : St 46 m h) (hy : Q 0 (clsH h)) : qC tFA (d + 3) k_TownText_close [3] h Q := by
  unfold clsH at hy
  refine qC_intro (TA_TownText_close_0 _ _ _ _ _ (pA_goesOn hS (fun x hx => ⟨fun c => ?_, fun c => pA_fail ?_⟩)))
  · rw [if_neg (hx.neg c)] at hy; exact hy
  · rw [if_pos (hx.pos c)] at hy; exact hy
theorem pA_begins (n1 : 0 ≤ h 5 1 ∧ h 5 1 ≤ 10) (n3 : 0 ≤ h 5 3 ∧ h 5 3 ≤ 6) (hy : ∀ h', bgnd 5 h h' → Q 0 h') : qC tFA (d + 1) k_Roofs_begin [86, 5] h Q := by
  refine qC_intro (TA_Roofs_begin_0 _ _ _ _ _ ?_)
  have s0 : mmS (mmS (mmS h 86 0 0) 86 1 0) 86 2 0 86 0 = 0 ∧ mmS (mmS (mmS h 86 0 0) 86 1 0) 86 2 0 86 1 = 0 ∧ mmS (mmS (mmS h 86 0 0) 86 1 0) 86 2 0 86 2 = 0 := by
    refine ⟨?_, ?_, ?_⟩
    · rw [mmS_slot, if_neg (by omega), mmS_slot, if_neg (by omega), mmS_slot, if_pos rfl]
    · rw [mmS_slot, if_neg (by omega), mmS_slot, if_pos rfl]
    · rw [mmS_slot, if_pos rfl]
  have fr0 : Fr (fun k _ => 86 ≤ k ∧ k ≤ 90) h (mmS (mmS (mmS h 86 0 0) 86 1 0) 86 2 0) := ((Fr.rf.put (by omega)).put (by omega)).put (by omega)
  generalize hH : mmS (mmS (mmS h 86 0 0) 86 1 0) 86 2 0 = h0 at s0 fr0 ⊢
  have lo : ∀ (j k : Nat) (H : mmH), (k : Int) + j = 5 → Fr (fun k _ => 86 ≤ k ∧ k ≤ 90) h H → (∀ i, H 86 i = h0 86 i) → (∀ l, 0 ≤ l → l < h 5 1 → H 87 l = h (5 + 5 + l) 2) → (∀ p, 0 ≤ p → p < h 5 3 → H 88 p = h (5 + 16 + p) 4 ∧ H 89 p = h (5 + 16 + p) 5) → (∀ q, 0 ≤ q → q < (k : Int) → H 90 q = 0) → qB tFA d k_Roofs_begin (h 0 0) (h 0 1) Q 5 [(3, 86), (3, 5), (1, (k : Int))] [] H := by
    intro j
    induction j with
    | zero =>
      intro k H hk fH e6 e7 e8 e9
      exact TA_Roofs_begin_5 _ _ _ _ _ _ ⟨fun _ => hy H ⟨fH, by rw [e6]; exact s0.1, by rw [e6]; exact s0.2.1, by rw [e6]; exact s0.2.2, e7, e8, fun q q1 q2 => e9 q q1 (by omega)⟩, fun c => absurd (by omega) c⟩
    | succ j ih =>
      intro k H hk fH e6 e7 e8 e9
      refine TA_Roofs_begin_5 _ _ _ _ _ _ ⟨fun c => absurd c (by omega), fun _ => ?_⟩
      rw [mmD_iff, mAdd_ok (by omega) (by omega), show (k : Int) + 1 = ((k + 1 : Nat) : Int) by omega]
      refine ⟨by omega, ih (k + 1) _ (by omega) (fH.put (by omega)) (fun i => by rw [mmS_cell (by omega)]; exact e6 i) (fun l l1 l2 => by rw [mmS_cell (by omega)]; exact e7 l l1 l2) (fun p p1 p2 => by rw [mmS_cell (by omega), mmS_cell (by omega)]; exact e8 p p1 p2) (fun q q1 q2 => ?_)⟩
      rw [mmS_slot]
      by_cases e : q = k
      · rw [if_pos e]
      · rw [if_neg e]; exact e9 q q1 (by omega)
  have lp : ∀ (j k : Nat) (H : mmH), (k : Int) + j = h 5 3 → Fr (fun k _ => 86 ≤ k ∧ k ≤ 90) h H → (∀ i, H 86 i = h0 86 i) → (∀ l, 0 ≤ l → l < h 5 1 → H 87 l = h (5 + 5 + l) 2) → (∀ p, 0 ≤ p → p < (k : Int) → H 88 p = h (5 + 16 + p) 4 ∧ H 89 p = h (5 + 16 + p) 5) → qB tFA d k_Roofs_begin (h 0 0) (h 0 1) Q 3 [(3, 86), (3, 5), (1, (k : Int))] [] H := by
    intro j
    induction j with
    | zero =>
      intro k H hk fH e6 e7 e8
      exact TA_Roofs_begin_3 _ _ _ _ _ _ ⟨fun _ => lo 5 0 H (by omega) fH e6 e7 (fun p p1 p2 => e8 p p1 (by omega)) (fun q q1 q2 => absurd q2 (by omega)), fun c => absurd (by rw [fH 5 3 (by omega)]; omega) c⟩
    | succ j ih =>
      intro k H hk fH e6 e7 e8
      refine TA_Roofs_begin_3 _ _ _ _ _ _ ⟨fun c => absurd c (by rw [fH 5 3 (by omega)]; omega), fun _ => ?_⟩
      simp (disch := omega) only [mmD_iff, mmG_iff, Bool.and_eq_true, Bool.or_eq_true, Nat.beq_refl, true_and, and_true, Option.getD_none, Option.isNone_none, decide_eq_true_eq, lc_lt0, lc_gt0, lc_le0, lc_ge0, lc_eq0, lc_ne0, ite_true, ite_false, fc_tFA_9, fn_tFA_9, fc_tFB_9, fn_tFB_9, sh_9, wn_9, fc_tFA_50, fn_tFA_50, fc_tFB_50, fn_tFB_50, sh_50, wn_50, fc_tFA_20, fn_tFA_20, fc_tFB_20, fn_tFB_20, sh_20, wn_20, fc_tFA_61, fn_tFA_61, fc_tFB_61, fn_tFB_61, sh_61, wn_61, fc_tFA_27, fn_tFA_27, fc_tFB_27, fn_tFB_27, sh_27, wn_27, fc_tFA_68, fn_tFA_68, fc_tFB_68, fn_tFB_68, sh_68, wn_68, fc_tFA_91, fn_tFA_91, fc_tFB_91, fn_tFB_91, sh_91, wn_91]
      rw [mmS_cell (by omega), fH (21 + (k : Int)) 4 (by omega), fH (21 + (k : Int)) 5 (by omega), mAdd_ok (by omega) (by omega), show (k : Int) + 1 = ((k + 1 : Nat) : Int) by omega]
      refine ⟨by omega, by omega, by omega, by omega, by omega, by omega, ih (k + 1) _ (by omega) ((fH.put (by omega)).put (by omega)) (fun i => by rw [mmS_cell (by omega), mmS_cell (by omega)]; exact e6 i) (fun l l1 l2 => by rw [mmS_cell (by omega), mmS_cell (by omega)]; exact e7 l l1 l2) (fun p p1 p2 => ?_)⟩
      rw [mmS_cell (by omega), mmS_slot, mmS_slot, mmS_cell (by omega)]
      by_cases e : p = k
      · rw [if_pos e, if_pos e, e]; exact ⟨rfl, rfl⟩
      · rw [if_neg e, if_neg e]; exact e8 p p1 (by omega)
  have ll : ∀ (j k : Nat) (H : mmH), (k : Int) + j = h 5 1 → Fr (fun k _ => 86 ≤ k ∧ k ≤ 90) h H → (∀ i, H 86 i = h0 86 i) → (∀ l, 0 ≤ l → l < (k : Int) → H 87 l = h (5 + 5 + l) 2) → qB tFA d k_Roofs_begin (h 0 0) (h 0 1) Q 1 [(3, 86), (3, 5), (1, (k : Int))] [] H := by
    intro j
    induction j with
    | zero =>
      intro k H hk fH e6 e7
      exact TA_Roofs_begin_1 _ _ _ _ _ _ ⟨fun _ => lp (h 5 3).toNat 0 H (by omega) fH e6 (fun l l1 l2 => e7 l l1 (by omega)) (fun p p1 p2 => absurd p2 (by omega)), fun c => absurd (by rw [fH 5 1 (by omega)]; omega) c⟩
    | succ j ih =>
      intro k H hk fH e6 e7
      refine TA_Roofs_begin_1 _ _ _ _ _ _ ⟨fun c => absurd c (by rw [fH 5 1 (by omega)]; omega), fun _ => ?_⟩
      simp (disch := omega) only [mmD_iff, mmG_iff, Bool.and_eq_true, Bool.or_eq_true, Nat.beq_refl, true_and, and_true, Option.getD_none, Option.isNone_none, decide_eq_true_eq, lc_lt0, lc_gt0, lc_le0, lc_ge0, lc_eq0, lc_ne0, ite_true, ite_false, fc_tFA_9, fn_tFA_9, fc_tFB_9, fn_tFB_9, sh_9, wn_9, fc_tFA_50, fn_tFA_50, fc_tFB_50, fn_tFB_50, sh_50, wn_50, fc_tFA_20, fn_tFA_20, fc_tFB_20, fn_tFB_20, sh_20, wn_20, fc_tFA_61, fn_tFA_61, fc_tFB_61, fn_tFB_61, sh_61, wn_61, fc_tFA_27, fn_tFA_27, fc_tFB_27, fn_tFB_27, sh_27, wn_27, fc_tFA_68, fn_tFA_68, fc_tFB_68, fn_tFB_68, sh_68, wn_68, fc_tFA_91, fn_tFA_91, fc_tFB_91, fn_tFB_91, sh_91, wn_91]
      rw [fH (10 + (k : Int)) 2 (by omega), mAdd_ok (by omega) (by omega), show (k : Int) + 1 = ((k + 1 : Nat) : Int) by omega]
      refine ⟨by omega, by omega, by omega, ih (k + 1) _ (by omega) (fH.put (by omega)) (fun i => by rw [mmS_cell (by omega)]; exact e6 i) (fun l l1 l2 => ?_)⟩
      rw [mmS_slot]
      by_cases e : l = k
      · rw [if_pos e, e]; rfl
      · rw [if_neg e]; exact e7 l l1 (by omega)
  exact ll (h 5 1).toNat 0 h0 (by omega) fr0 (fun _ => rfl) (fun l l1 l2 => absurd l2 (by omega))
end TNA
section TNB
variable {d : Nat} {h m0 : mmH} {Q : Int → mmH → Prop} {m : Int}
theorem pB_clear (hy : ∀ h', clrd 5 h h' → Q 0 h') : qC tFB (d + 2) k_Town_clear [5] h Q := by
  refine qC_intro (TB5_Town_clear_0 _ _ _ _ _ ?_)
  have s0 : ∀ i, mmS (mmS (mmS (mmS (mmS (mmS h 5 0 0) 5 1 0) 5 2 0) 5 3 0) 5 4 5) 5 5 0 5 i = if i = 5 then 0 else if i = 4 then 5 else if i = 3 then 0 else if i = 2 then 0 else if i = 1 then 0 else if i = 0 then 0 else h 5 i := fun i => by
    rw [mmS_slot, mmS_slot, mmS_slot, mmS_slot, mmS_slot, mmS_slot]
  have fr0 : Fr (fun k i => (k = 5 ∧ i ≤ 5) ∨ (5 + 23 ≤ k ∧ k ≤ 5 + 32)) h (mmS (mmS (mmS (mmS (mmS (mmS h 5 0 0) 5 1 0) 5 2 0) 5 3 0) 5 4 5) 5 5 0) := (((((Fr.rf.put (by omega)).put (by omega)).put (by omega)).put (by omega)).put (by omega)).put (by omega)
  generalize hH : mmS (mmS (mmS (mmS (mmS (mmS h 5 0 0) 5 1 0) 5 2 0) 5 3 0) 5 4 5) 5 5 0 = h0 at s0 fr0 ⊢
  have key : ∀ (j k : Nat) (w : mmV) (g : mmH), k + j = 10 → Fr (fun k i => (k = 5 ∧ i ≤ 5) ∨ (5 + 23 ≤ k ∧ k ≤ 5 + 32)) h g → (∀ i, g 5 i = h0 5 i) → (∀ a b, 0 ≤ a → a < (k : Int) → 0 ≤ b → b < 10 → g (28 + a) b = -1) → qB tFB (d + 1) k_Town_clear (h 0 0) (h 0 1) Q 1 [(3, 5), (1, (k : Int)), w] [] g := by
    intro j
    induction j with
    | zero =>
      intro k w g hk fg e0 ea
      refine TB5_Town_clear_1 _ _ _ _ _ _ _ ⟨fun _ => qC_intro (TB38_Laws_clear_0 _ _ _ _ _ ?_), fun c => absurd (by omega) c⟩
      have ev : ∀ i, mmS (mmS g 38 0 0) 38 1 0 5 i = h0 5 i := fun i => by rw [mmS_cell (by omega), mmS_cell (by omega)]; exact e0 i
      refine hy _ ⟨((fg.mono (fun k i q => by omega)).put (by omega)).put (by omega), ?_, ?_, ?_, ?_, ?_, ?_, ?_, ?_, fun a b a1 a2 b1 b2 => ?_⟩
      · rw [ev, s0]; rfl
      · rw [ev, s0]; rfl
      · rw [ev, s0]; rfl
      · rw [ev, s0]; rfl
      · rw [ev, s0]; rfl
      · rw [ev, s0]; rfl
      · show mmS (mmS g 38 0 0) 38 1 0 38 0 = 0
        rw [mmS_slot, if_neg (by omega), mmS_slot, if_pos rfl]
      · show mmS (mmS g 38 0 0) 38 1 0 38 1 = 0
        rw [mmS_slot, if_pos rfl]
      · rw [mmS_cell (by omega), mmS_cell (by omega)]
        exact ea a b a1 (by omega) b1 b2
    | succ j ih =>
      intro k w g hk fg e0 ea
      refine TB5_Town_clear_1 _ _ _ _ _ _ _ ⟨fun c => absurd c (by omega), fun _ => ?_⟩
      have kb : ∀ (j2 k2 : Nat) (g : mmH), k2 + j2 = 10 → Fr (fun k i => (k = 5 ∧ i ≤ 5) ∨ (5 + 23 ≤ k ∧ k ≤ 5 + 32)) h g → (∀ i, g 5 i = h0 5 i) → (∀ a b, 0 ≤ a → a < (k : Int) → 0 ≤ b → b < 10 → g (28 + a) b = -1) → (∀ b, 0 ≤ b → b < (k2 : Int) → g (28 + (k : Int)) b = -1) → qB tFB (d + 1) k_Town_clear (h 0 0) (h 0 1) Q 2 [(3, 5), (1, (k : Int)), (1, (k2 : Int))] [] g := by
        intro j2
        induction j2 with
        | zero =>
          intro k2 g hk2 fg e0 ea eb
          refine TB5_Town_clear_2 _ _ _ _ _ _ _ ⟨fun _ => ?_, fun c => absurd (by omega) c⟩
          rw [mAdd_ok (by omega) (by omega), show (k : Int) + 1 = ((k + 1 : Nat) : Int) by omega]
          refine ih (k + 1) _ g (by omega) fg e0 (fun a b a1 a2 b1 b2 => ?_)
          by_cases e : a = k
          · rw [e]; exact eb b b1 (by omega)
          · exact ea a b a1 (by omega) b1 b2
        | succ j2 ih2 =>
          intro k2 g hk2 fg e0 ea eb
          refine TB5_Town_clear_2 _ _ _ _ _ _ _ ⟨fun c => absurd c (by omega), fun _ => ?_⟩
          simp (disch := omega) only [mmD_iff, mmG_iff, Bool.and_eq_true, Bool.or_eq_true, Nat.beq_refl, true_and, and_true, Option.getD_none, Option.isNone_none, decide_eq_true_eq, lc_lt0, lc_gt0, lc_le0, lc_ge0, lc_eq0, lc_ne0, ite_true, ite_false, fc_tFA_9, fn_tFA_9, fc_tFB_9, fn_tFB_9, sh_9, wn_9, fc_tFA_50, fn_tFA_50, fc_tFB_50, fn_tFB_50, sh_50, wn_50, fc_tFA_20, fn_tFA_20, fc_tFB_20, fn_tFB_20, sh_20, wn_20, fc_tFA_61, fn_tFA_61, fc_tFB_61, fn_tFB_61, sh_61, wn_61, fc_tFA_27, fn_tFA_27, fc_tFB_27, fn_tFB_27, sh_27, wn_27, fc_tFA_68, fn_tFA_68, fc_tFB_68, fn_tFB_68, sh_68, wn_68, fc_tFA_91, fn_tFA_91, fc_tFB_91, fn_tFB_91, sh_91, wn_91]
          rw [mAdd_ok (by omega) (by omega), show (k2 : Int) + 1 = ((k2 + 1 : Nat) : Int) by omega]
          refine ⟨by omega, by omega, ih2 (k2 + 1) _ (by omega) (fg.put (by omega)) (fun i => by rw [mmS_cell (by omega)]; exact e0 i) (fun a b a1 a2 b1 b2 => by rw [mmS_cell (by omega)]; exact ea a b a1 a2 b1 b2) (fun b b1 b2 => ?_)⟩
          rw [mmS_slot]
          by_cases e : b = k2
          · rw [if_pos e]
          · rw [if_neg e]; exact eb b b1 (by omega)
      exact kb 10 0 g (by omega) fg e0 ea (fun b b1 b2 => absurd b2 (by omega))
  exact key 10 0 _ h0 (by omega) fr0 (fun _ => rfl) (fun a b a1 a2 => absurd a2 (by omega))
theorem pB_open {n : Int} (n2 : n ≤ 1600) (hn : n = h 1 1) (hy : ∀ h', opnd 5 h h' → Q 0 h') : qC tFB (d + 3) k_TownText_open [3, 2, n] h Q := by
  refine qC_intro (TB_TownText_open_0 _ _ _ _ _ _ (pB_clear (fun h1 hc => hy _ ?_)))
  obtain ⟨c0, c1, c2, c3, c4, c5, c6, c7, c8, c9⟩ := hc
  have em : mMin n ((1600 : Nat) : Int) = h 1 1 := by unfold mMin; rw [if_neg (by omega)]; exact hn
  rw [em] at c0
  have o : ∀ k i, k ≠ 3 → mmS (mmS (mmS (mmS h1 3 4 0) 3 6 (-1)) 3 0 0) 3 1 (-1) k i = h1 k i := fun k i q => by rw [mmS_cell q, mmS_cell q, mmS_cell q, mmS_cell q]
  refine ⟨fun k i q => ?_, ⟨?_, ?_, ?_, ?_, ?_, ?_⟩, ⟨?_, ?_, ?_, ?_, ?_, ?_, ?_, ?_⟩, fun a b a1 a2 b1 b2 => ?_⟩
  · by_cases e : k = 3
    · subst e
      rw [mmS_slot, if_neg (by omega), mmS_slot, if_neg (by omega), mmS_slot, if_neg (by omega), mmS_slot, if_neg (by omega), c0 3 i (by omega), mmS_slot, if_neg (by omega), mmS_slot, if_neg (by omega)]
    · rw [o k i e, c0 k i (by omega), mmS_cell e, mmS_cell e]
  · rw [mmS_slot, if_neg (by omega), mmS_slot, if_neg (by omega), mmS_slot, if_neg (by omega), mmS_slot, if_neg (by omega), c0 3 2 (by omega), mmS_slot, if_neg (by omega), mmS_slot, if_pos rfl]
  · rw [mmS_slot, if_neg (by omega), mmS_slot, if_neg (by omega), mmS_slot, if_neg (by omega), mmS_slot, if_neg (by omega), c0 3 3 (by omega), mmS_slot, if_pos rfl]
  · rw [mmS_slot, if_neg (by omega), mmS_slot, if_neg (by omega), mmS_slot, if_neg (by omega), mmS_slot, if_pos rfl]
  · rw [mmS_slot, if_neg (by omega), mmS_slot, if_neg (by omega), mmS_slot, if_pos rfl]
  · rw [mmS_slot, if_neg (by omega), mmS_slot, if_pos rfl]
  · rw [mmS_slot, if_pos rfl]
  · rw [o _ _ (by omega)]; exact c1
  · rw [o _ _ (by omega)]; exact c2
  · rw [o _ _ (by omega)]; exact c3
  · rw [o _ _ (by omega)]; exact c4
  · rw [o _ _ (by omega)]; exact c5
  · rw [o _ _ (by omega)]; exact c6
  · rw [o _ _ (by omega)]; exact c7
  · rw [o _ _ (by omega)]; exact c8
  · rw [o _ _ (by omega)]; exact c9 a b a1 a2 b1 b2
theorem pB_close (hS : St 5 m h) (hy : Q 0 (clsH h)) : qC tFB (d + 3) k_TownText_close [3] h Q := by
  unfold clsH at hy
  refine qC_intro (TB_TownText_close_0 _ _ _ _ _ (pB_goesOn hS (fun x hx => ⟨fun c => ?_, fun c => pB_fail ?_⟩)))
  · rw [if_neg (hx.neg c)] at hy; exact hy
  · rw [if_pos (hx.pos c)] at hy; exact hy
theorem pB_begins (n1 : 0 ≤ h 46 1 ∧ h 46 1 ≤ 10) (n3 : 0 ≤ h 46 3 ∧ h 46 3 ≤ 6) (hy : ∀ h', bgnd 46 h h' → Q 0 h') : qC tFB (d + 1) k_Roofs_begin [86, 46] h Q := by
  refine qC_intro (TB_Roofs_begin_0 _ _ _ _ _ ?_)
  have s0 : mmS (mmS (mmS h 86 0 0) 86 1 0) 86 2 0 86 0 = 0 ∧ mmS (mmS (mmS h 86 0 0) 86 1 0) 86 2 0 86 1 = 0 ∧ mmS (mmS (mmS h 86 0 0) 86 1 0) 86 2 0 86 2 = 0 := by
    refine ⟨?_, ?_, ?_⟩
    · rw [mmS_slot, if_neg (by omega), mmS_slot, if_neg (by omega), mmS_slot, if_pos rfl]
    · rw [mmS_slot, if_neg (by omega), mmS_slot, if_pos rfl]
    · rw [mmS_slot, if_pos rfl]
  have fr0 : Fr (fun k _ => 86 ≤ k ∧ k ≤ 90) h (mmS (mmS (mmS h 86 0 0) 86 1 0) 86 2 0) := ((Fr.rf.put (by omega)).put (by omega)).put (by omega)
  generalize hH : mmS (mmS (mmS h 86 0 0) 86 1 0) 86 2 0 = h0 at s0 fr0 ⊢
  have lo : ∀ (j k : Nat) (H : mmH), (k : Int) + j = 5 → Fr (fun k _ => 86 ≤ k ∧ k ≤ 90) h H → (∀ i, H 86 i = h0 86 i) → (∀ l, 0 ≤ l → l < h 46 1 → H 87 l = h (46 + 5 + l) 2) → (∀ p, 0 ≤ p → p < h 46 3 → H 88 p = h (46 + 16 + p) 4 ∧ H 89 p = h (46 + 16 + p) 5) → (∀ q, 0 ≤ q → q < (k : Int) → H 90 q = 0) → qB tFB d k_Roofs_begin (h 0 0) (h 0 1) Q 5 [(3, 86), (3, 46), (1, (k : Int))] [] H := by
    intro j
    induction j with
    | zero =>
      intro k H hk fH e6 e7 e8 e9
      exact TB_Roofs_begin_5 _ _ _ _ _ _ ⟨fun _ => hy H ⟨fH, by rw [e6]; exact s0.1, by rw [e6]; exact s0.2.1, by rw [e6]; exact s0.2.2, e7, e8, fun q q1 q2 => e9 q q1 (by omega)⟩, fun c => absurd (by omega) c⟩
    | succ j ih =>
      intro k H hk fH e6 e7 e8 e9
      refine TB_Roofs_begin_5 _ _ _ _ _ _ ⟨fun c => absurd c (by omega), fun _ => ?_⟩
      rw [mmD_iff, mAdd_ok (by omega) (by omega), show (k : Int) + 1 = ((k + 1 : Nat) : Int) by omega]
      refine ⟨by omega, ih (k + 1) _ (by omega) (fH.put (by omega)) (fun i => by rw [mmS_cell (by omega)]; exact e6 i) (fun l l1 l2 => by rw [mmS_cell (by omega)]; exact e7 l l1 l2) (fun p p1 p2 => by rw [mmS_cell (by omega), mmS_cell (by omega)]; exact e8 p p1 p2) (fun q q1 q2 => ?_)⟩
      rw [mmS_slot]
      by_cases e : q = k
      · rw [if_pos e]
      · rw [if_neg e]; exact e9 q q1 (by omega)
  have lp : ∀ (j k : Nat) (H : mmH), (k : Int) + j = h 46 3 → Fr (fun k _ => 86 ≤ k ∧ k ≤ 90) h H → (∀ i, H 86 i = h0 86 i) → (∀ l, 0 ≤ l → l < h 46 1 → H 87 l = h (46 + 5 + l) 2) → (∀ p, 0 ≤ p → p < (k : Int) → H 88 p = h (46 + 16 + p) 4 ∧ H 89 p = h (46 + 16 + p) 5) → qB tFB d k_Roofs_begin (h 0 0) (h 0 1) Q 3 [(3, 86), (3, 46), (1, (k : Int))] [] H := by
    intro j
    induction j with
    | zero =>
      intro k H hk fH e6 e7 e8
      exact TB_Roofs_begin_3 _ _ _ _ _ _ ⟨fun _ => lo 5 0 H (by omega) fH e6 e7 (fun p p1 p2 => e8 p p1 (by omega)) (fun q q1 q2 => absurd q2 (by omega)), fun c => absurd (by rw [fH 46 3 (by omega)]; omega) c⟩
    | succ j ih =>
      intro k H hk fH e6 e7 e8
      refine TB_Roofs_begin_3 _ _ _ _ _ _ ⟨fun c => absurd c (by rw [fH 46 3 (by omega)]; omega), fun _ => ?_⟩
      simp (disch := omega) only [mmD_iff, mmG_iff, Bool.and_eq_true, Bool.or_eq_true, Nat.beq_refl, true_and, and_true, Option.getD_none, Option.isNone_none, decide_eq_true_eq, lc_lt0, lc_gt0, lc_le0, lc_ge0, lc_eq0, lc_ne0, ite_true, ite_false, fc_tFA_9, fn_tFA_9, fc_tFB_9, fn_tFB_9, sh_9, wn_9, fc_tFA_50, fn_tFA_50, fc_tFB_50, fn_tFB_50, sh_50, wn_50, fc_tFA_20, fn_tFA_20, fc_tFB_20, fn_tFB_20, sh_20, wn_20, fc_tFA_61, fn_tFA_61, fc_tFB_61, fn_tFB_61, sh_61, wn_61, fc_tFA_27, fn_tFA_27, fc_tFB_27, fn_tFB_27, sh_27, wn_27, fc_tFA_68, fn_tFA_68, fc_tFB_68, fn_tFB_68, sh_68, wn_68, fc_tFA_91, fn_tFA_91, fc_tFB_91, fn_tFB_91, sh_91, wn_91]
      rw [mmS_cell (by omega), fH (62 + (k : Int)) 4 (by omega), fH (62 + (k : Int)) 5 (by omega), mAdd_ok (by omega) (by omega), show (k : Int) + 1 = ((k + 1 : Nat) : Int) by omega]
      refine ⟨by omega, by omega, by omega, by omega, by omega, by omega, ih (k + 1) _ (by omega) ((fH.put (by omega)).put (by omega)) (fun i => by rw [mmS_cell (by omega), mmS_cell (by omega)]; exact e6 i) (fun l l1 l2 => by rw [mmS_cell (by omega), mmS_cell (by omega)]; exact e7 l l1 l2) (fun p p1 p2 => ?_)⟩
      rw [mmS_cell (by omega), mmS_slot, mmS_slot, mmS_cell (by omega)]
      by_cases e : p = k
      · rw [if_pos e, if_pos e, e]; exact ⟨rfl, rfl⟩
      · rw [if_neg e, if_neg e]; exact e8 p p1 (by omega)
  have ll : ∀ (j k : Nat) (H : mmH), (k : Int) + j = h 46 1 → Fr (fun k _ => 86 ≤ k ∧ k ≤ 90) h H → (∀ i, H 86 i = h0 86 i) → (∀ l, 0 ≤ l → l < (k : Int) → H 87 l = h (46 + 5 + l) 2) → qB tFB d k_Roofs_begin (h 0 0) (h 0 1) Q 1 [(3, 86), (3, 46), (1, (k : Int))] [] H := by
    intro j
    induction j with
    | zero =>
      intro k H hk fH e6 e7
      exact TB_Roofs_begin_1 _ _ _ _ _ _ ⟨fun _ => lp (h 46 3).toNat 0 H (by omega) fH e6 (fun l l1 l2 => e7 l l1 (by omega)) (fun p p1 p2 => absurd p2 (by omega)), fun c => absurd (by rw [fH 46 1 (by omega)]; omega) c⟩
    | succ j ih =>
      intro k H hk fH e6 e7
      refine TB_Roofs_begin_1 _ _ _ _ _ _ ⟨fun c => absurd c (by rw [fH 46 1 (by omega)]; omega), fun _ => ?_⟩
      simp (disch := omega) only [mmD_iff, mmG_iff, Bool.and_eq_true, Bool.or_eq_true, Nat.beq_refl, true_and, and_true, Option.getD_none, Option.isNone_none, decide_eq_true_eq, lc_lt0, lc_gt0, lc_le0, lc_ge0, lc_eq0, lc_ne0, ite_true, ite_false, fc_tFA_9, fn_tFA_9, fc_tFB_9, fn_tFB_9, sh_9, wn_9, fc_tFA_50, fn_tFA_50, fc_tFB_50, fn_tFB_50, sh_50, wn_50, fc_tFA_20, fn_tFA_20, fc_tFB_20, fn_tFB_20, sh_20, wn_20, fc_tFA_61, fn_tFA_61, fc_tFB_61, fn_tFB_61, sh_61, wn_61, fc_tFA_27, fn_tFA_27, fc_tFB_27, fn_tFB_27, sh_27, wn_27, fc_tFA_68, fn_tFA_68, fc_tFB_68, fn_tFB_68, sh_68, wn_68, fc_tFA_91, fn_tFA_91, fc_tFB_91, fn_tFB_91, sh_91, wn_91]
      rw [fH (51 + (k : Int)) 2 (by omega), mAdd_ok (by omega) (by omega), show (k : Int) + 1 = ((k + 1 : Nat) : Int) by omega]
      refine ⟨by omega, by omega, by omega, ih (k + 1) _ (by omega) (fH.put (by omega)) (fun i => by rw [mmS_cell (by omega)]; exact e6 i) (fun l l1 l2 => ?_)⟩
      rw [mmS_slot]
      by_cases e : l = k
      · rw [if_pos e, e]; rfl
      · rw [if_neg e]; exact e7 l l1 (by omega)
  exact ll (h 46 1).toNat 0 h0 (by omega) fr0 (fun _ => rfl) (fun l l1 l2 => absurd l2 (by omega))
end TNB
