/-! ===== mm: a long block's check in pieces ===== -/
def mmChkP (tb : mmT) (fin : Nat → Nat → Bool) (ow : Nat) (isInit sc : Bool) (rt : Nat) (cc : ByteArray) (pcs : List Nat) : Nat → List mmOp → Option Nat
  | pc, [] => some pc
  | pc, op :: ops => match decode cc pc with
    | .ok q => bif (mmCand tb fin ow isInit sc rt pcs pc op).any (fun z => decide (q = z)) then mmChkP tb fin ow isInit sc rt cc pcs (pc + q.2) ops else none
    | _ => none
theorem mmChkP_app {tb : mmT} {fin : Nat → Nat → Bool} {ow : Nat} {isInit sc : Bool} {rt : Nat} {cc : ByteArray} {pcs : List Nat} {b : List mmOp} : ∀ (a : List mmOp) (pc pc' : Nat), mmChkP tb fin ow isInit sc rt cc pcs pc a = some pc' → mmChkB tb fin ow isInit sc rt cc pcs pc' b = true → mmChkB tb fin ow isInit sc rt cc pcs pc (a ++ b) = true
  | [], pc, pc', h, hb => by
    simp only [mmChkP, Option.some.injEq] at h
    rw [h]
    exact hb
  | op :: ops, pc, pc', h, hb => by
    unfold mmChkP at h
    rw [List.cons_append]
    unfold mmChkB
    cases hd : decode cc pc with
    | error z => rw [hd] at h; simp at h
    | ok q =>
      rw [hd] at h
      simp only [] at h ⊢
      cases hc : (mmCand tb fin ow isInit sc rt pcs pc op).any (fun z => decide (q = z)) with
      | false => rw [hc] at h; simp at h
      | true =>
        rw [hc] at h
        simp only [cond_true] at h
        rw [mmChkP_app ops _ _ h hb]
        simp
theorem mmChk_of {tb : mmT} {fin : Nat → Nat → Bool} {ow : Nat} {isInit sc : Bool} {rt : Nat} {cc : ByteArray} {pcs : List Nat} {blks : List (List mmOp)} (h0 : pcs[0]? = some 0) (hl : pcs.length = blks.length) (h : ∀ b, b < pcs.length → mmChkB tb fin ow isInit sc rt cc pcs (pcs.getD b 0) (blks.getD b []) = true) : mmChk tb fin ow isInit sc rt cc pcs blks = true := by
  simp only [mmChk, Bool.and_eq_true, decide_eq_true_eq]
  exact ⟨h0, hl, List.all_eq_true.mpr fun b hb => h b (List.mem_range.mp hb)⟩
