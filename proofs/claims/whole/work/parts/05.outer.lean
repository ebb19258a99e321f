/-! ===== mm: an outer row of rows ===== -/
theorem mm_outer (cA : ClassId) (N h0 : Nat) : ∀ i : Nat, Jvm.Free.Multi.outerC cA N h0 i = arrV cA N (fun j => if j < i then .ref (h0 + 1 + j) else .null)
  | 0 => by
    have e : (fun j : Nat => if j < 0 then (.ref (h0 + 1 + j) : Value) else .null) = fun _ => .null := by
      funext j
      rw [if_neg (Nat.not_lt_zero j)]
    rw [e, ← arrV_new]
    rfl
  | i + 1 => by
    show (Jvm.Free.Multi.outerC cA N h0 i).setSlot i (.ref (h0 + 1 + i)) = _
    rw [mm_outer cA N h0 i, arrV_store]
    congr 1
    funext j
    unfold updV
    by_cases q : j = i
    · rw [if_pos q, if_pos (by omega), q]
    · rw [if_neg q]
      show (if j < i then Value.ref (h0 + 1 + j) else Value.null) = if j < i + 1 then Value.ref (h0 + 1 + j) else Value.null
      by_cases q2 : j < i
      · rw [if_pos q2, if_pos (by omega)]
      · rw [if_neg q2, if_neg (by omega)]
