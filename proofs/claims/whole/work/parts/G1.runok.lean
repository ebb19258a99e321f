/-! ===== mm: the computing run is right ===== -/
section GR
variable {n z : Nat} {l : List (Nat × Int)} {c : cH}
theorem bif_some {α : Type} {b : Bool} {x r : α} (h : (bif b then some x else none) = some r) : b = true ∧ x = r := by
  cases b with
  | true => exact ⟨rfl, Option.some.inj h⟩
  | false => cases h
theorem beq_no {a b : Nat} (h : a ≠ b) : Nat.beq a b = false := by
  cases e : Nat.beq a b with
  | false => rfl
  | true => exact absurd (Nat.eq_of_beq_eq_true e) h
theorem cGet_cons {a k : Nat} {x : Int} : cGet ((a, x) :: l) k = if a = k then x else cGet l k := by
  show (bif Nat.beq a k then x else cGet l k) = _
  by_cases q : a = k
  · rw [if_pos q, q, Nat.beq_refl]; rfl
  · rw [if_neg q, beq_no q]; rfl
theorem cGet_out {k : Nat} : ∀ (l : List (Nat × Int)), (∀ e ∈ l, e.1 ≠ k) → cGet l k = 0
  | [], _ => rfl
  | (a, x) :: r, h => by
    rw [cGet_cons, if_neg (h (a, x) List.mem_cons_self)]
    exact cGet_out r (fun e he => h e (List.mem_cons_of_mem _ he))
theorem toH_at {k i : Int} (hk : 0 < k) (hi : 0 ≤ i ∧ i < 65536) : toH c k i = cGet c.2.2 (k.toNat * 65536 + i.toNat) := by
  unfold toH
  rw [if_neg (by omega), if_pos ⟨hk, hi⟩]
theorem toH_no {k i : Int} (hk : k ≠ 0) (h : ¬ (0 < k ∧ 0 ≤ i ∧ i < 65536)) : toH c k i = 0 := by
  unfold toH
  rw [if_neg hk, if_neg h]
theorem toH_0 {i : Int} : toH c 0 i = if i = 0 then (c.1 : Int) else if i = 1 then (c.2.1 : Int) else 0 := by
  unfold toH
  rw [if_pos rfl]
theorem toH_put {k i v : Int} (hk : 0 < k) (hi : 0 ≤ i ∧ i < 65536) : toH (n, z, (k.toNat * 65536 + i.toNat, v) :: l) = mmS (toH (n, z, l)) k i v := by
  funext a b
  by_cases a0 : a = 0
  · subst a0
    rw [mmS_cell (by omega), toH_0, toH_0]
  · by_cases r : 0 < a ∧ 0 ≤ b ∧ b < 65536
    · rw [toH_at r.1 r.2]
      show cGet ((k.toNat * 65536 + i.toNat, v) :: l) _ = _
      rw [cGet_cons]
      by_cases ea : a = k
      · subst ea
        rw [mmS_slot]
        by_cases eb : b = i
        · rw [if_pos eb, if_pos (by rw [eb])]
        · rw [if_neg eb, if_neg (by omega), toH_at r.1 r.2]
      · rw [mmS_cell ea, if_neg (by omega), toH_at r.1 r.2]
    · rw [toH_no a0 r]
      by_cases ea : a = k
      · subst ea
        rw [mmS_slot, if_neg (by omega), toH_no a0 r]
      · rw [mmS_cell ea, toH_no a0 r]
theorem cFresh_ne (hf : cFresh n l = true) {k : Nat} (hk : n * 65536 ≤ k) : ∀ e ∈ l, e.1 ≠ k := fun e he => by
  have := List.all_eq_true.mp hf e he
  have := Nat.le_of_ble_eq_true this
  omega
theorem toH_Z (hf : cFresh c.1 c.2.2 = true) (h1 : 0 < c.1) : mmZ (toH c) = toH c := by
  funext a b
  unfold mmZ
  have e : toH c 0 0 = (c.1 : Int) := by rw [toH_0, if_pos rfl]
  rw [e]
  by_cases q : a = (c.1 : Int)
  · rw [if_pos q]
    by_cases r : 0 < a ∧ 0 ≤ b ∧ b < 65536
    · rw [toH_at r.1 r.2, cGet_out _ (cFresh_ne hf (by omega))]
    · rw [toH_no (by omega) r]
  · rw [if_neg q]
theorem toH_cnt {n' z' : Nat} : mmS (mmS (toH (n, z, l)) 0 0 (n' : Int)) 0 1 (z' : Int) = toH (n', z', l) := by
  funext a b
  by_cases a0 : a = 0
  · subst a0
    rw [mmS_slot, mmS_slot, toH_0, toH_0]
    by_cases b0 : b = 0
    · subst b0; rfl
    · by_cases b1 : b = 1
      · subst b1; rfl
      · rw [if_neg b1, if_neg b0, if_neg b0, if_neg b1, if_neg b0, if_neg b1]
  · rw [mmS_cell a0, mmS_cell a0]
    by_cases r : 0 < a ∧ 0 ≤ b ∧ b < 65536
    · rw [toH_at r.1 r.2, toH_at r.1 r.2]
    · rw [toH_no a0 r, toH_no a0 r]
theorem cGet_rows (k : Nat) : ∀ (m : Nat) (l : List (Nat × Int)), cGet (cRows n m l) k = if n * 65536 ≤ k ∧ k < n * 65536 + m then ((n + 1 + (k - n * 65536) : Nat) : Int) else cGet l k
  | 0, l => by rw [if_neg (by omega)]; rfl
  | m + 1, l => by
    have e : cRows n (m + 1) l = cRows n m ((n * 65536 + m, ((n + 1 + m : Nat) : Int)) :: l) := by
      unfold cRows
      rw [List.range_succ, List.map_append, List.append_assoc]
      rfl
    rw [e, cGet_rows k m, cGet_cons]
    by_cases q : n * 65536 ≤ k ∧ k < n * 65536 + m
    · rw [if_pos q, if_pos (by omega)]
    · rw [if_neg q]
      by_cases q2 : n * 65536 + m = k
      · rw [if_pos q2, if_pos (by omega), show k - n * 65536 = m by omega]
      · rw [if_neg q2, if_neg (by omega)]
theorem toH_rows {m : Nat} (hf : cFresh n l = true) (h1 : 0 < n) (hm : m < 65536) : mmRows (toH (n, z, l)) (m : Int) = toH (n, z, cRows n m l) := by
  funext a b
  unfold mmRows
  have e : toH (n, z, l) 0 0 = (n : Int) := by rw [toH_0, if_pos rfl]
  rw [e]
  by_cases a0 : a = 0
  · subst a0
    rw [if_neg (by omega), if_neg (by omega), toH_0, toH_0]
  · by_cases r : 0 < a ∧ 0 ≤ b ∧ b < 65536
    · rw [toH_at (c := (n, z, cRows n m l)) r.1 r.2, toH_at (c := (n, z, l)) r.1 r.2]
      show _ = cGet (cRows n m l) _
      rw [cGet_rows]
      by_cases q : a = (n : Int)
      · rw [if_pos q]
        by_cases q2 : b < (m : Int)
        · rw [if_pos ⟨r.2.1, q2⟩, if_pos (by omega)]
          omega
        · rw [if_neg (fun z => q2 z.2), if_neg (by omega), cGet_out _ (cFresh_ne hf (by omega))]
      · rw [if_neg q, if_neg (show ¬ (n * 65536 ≤ a.toNat * 65536 + b.toNat ∧ a.toNat * 65536 + b.toNat < n * 65536 + m) by omega)]
        by_cases q2 : (n : Int) < a ∧ a ≤ (n : Int) + m
        · rw [if_pos q2, cGet_out _ (cFresh_ne hf (by omega))]
        · rw [if_neg q2]
    · rw [toH_no a0 r, toH_no a0 r]
      by_cases q : a = (n : Int)
      · rw [if_pos q, if_neg (by omega)]
      · rw [if_neg q]
        split <;> rfl
end GR
section GS
variable {K : Nat → List Int → mmH → (Int → mmH → Prop) → Prop} {Q : Int → mmH → Prop} {X : Nat → mmKont} {w n0 z0 mc ms : Nat} {L : Int} {xs : Int → Int} {k : mmKont}
theorem cI2_ok {f : Nat} {a b r : Int} (h : cI2 f a b = some r) : mI2 f a b = r := by
  unfold cI2 at h
  split at h
  · rw [← Option.some.inj h]; exact mAdd_def a b
  · rw [← Option.some.inj h]; exact mSub_def a b
  · rw [← Option.some.inj h]; exact mMul_def a b
  · rw [← Option.some.inj h]; exact mOr_def a b
  · rw [← Option.some.inj h]; exact mShl_def a b
  · cases h
theorem cCd_ok {cd : Nat} {a b : Int} {r : Bool} (h : cCd cd a b = some r) : (r = true ↔ mmCd cd a b) := by
  unfold cCd at h
  split at h
  · rw [← Option.some.inj h]; exact decide_eq_true_iff
  · rw [← Option.some.inj h]; exact decide_eq_true_iff
  · rw [← Option.some.inj h]; exact decide_eq_true_iff
  · cases h
theorem nope {α : Type} {p : Prop} {r : α} (h : (none : Option α) = some r) : p := by cases h
def cTo (X : Nat → mmKont) (k : mmKont) (r : Option Nat × List mmV × List mmV × cH) : Prop := match r.1 with
  | some b => X b r.2.1 r.2.2.1 (toH r.2.2.2)
  | none => k r.2.1 r.2.2.1 (toH r.2.2.2)
set_option maxHeartbeats 4000000 in
theorem cStep_ok {o : Nat} {a : Int} {l : List Int} {ls st : List mmV} {c : cH} {r : Option Nat × List mmV × List mmV × cH} (h : cStep w n0 z0 mc ms o a l ls st c = some r) (hk : cTo X k r) : mmStep tSh tTg (fun _ _ => none) (tWn w) tMp K Q X n0 z0 mc ms L xs tTx0 o a l k ls st (toH c) := by
  match o, h with
  | 0, h =>
    have h : some (none, ls, (a.toNat, l.headD 0) :: st, c) = some r := h
    rw [← Option.some.inj h] at hk
    exact hk
  | 1, h =>
    obtain ⟨h1, h2⟩ := bif_some h
    rw [← h2] at hk
    exact mmG_iff.mpr ⟨h1, hk⟩
  | 2, h =>
    match st, h with
    | v :: s, h =>
      obtain ⟨h1, h2⟩ := bif_some h
      rw [← h2] at hk
      exact mmG_iff.mpr ⟨h1, hk⟩
  | 3, h =>
    obtain ⟨h1, h2⟩ := bif_some h
    rw [← h2] at hk
    refine mmG_iff.mpr ⟨h1, ?_⟩
    rw [mAdd_def]
    exact hk
  | 4, h =>
    match st, h with
    | y :: x :: s, h =>
      show mmG _ _
      have h : (bif Nat.beq y.1 1 && Nat.beq x.1 1 then (match cI2 a.toNat x.2 y.2 with | some z => some (none, ls, (1, z) :: s, c) | none => none) else none) = some r := h
      cases hb : Nat.beq y.1 1 && Nat.beq x.1 1 with
      | false => rw [hb] at h; cases h
      | true =>
        rw [hb] at h
        cases hc : cI2 a.toNat x.2 y.2 with
        | none => rw [hc] at h; cases h
        | some z =>
          rw [hc] at h
          have h : some (none, ls, (1, z) :: s, c) = some r := h
          rw [← Option.some.inj h] at hk
          refine mmG_iff.mpr ⟨rfl, ?_⟩
          rw [cI2_ok hc]
          exact hk
  | 9, h =>
    match st, h with
    | v :: s, h =>
      obtain ⟨h1, h2⟩ := bif_some h
      rw [← h2] at hk
      simp only [Bool.and_eq_true] at h1
      show oStk a.toNat k ls (v :: s) (toH c)
      rw [mm_beq h1.1]
      exact mmG_iff.mpr ⟨h1.2, hk⟩
  | 10, h =>
    match st, h with
    | v :: s, h =>
      obtain ⟨h1, h2⟩ := bif_some h
      rw [← h2] at hk
      simp only [Bool.and_eq_true] at h1
      exact mmG_iff.mpr ⟨h1.1, mmG_iff.mpr ⟨h1.2, hk⟩⟩
  | 11, h =>
    match st, h with
    | u :: v :: s, h =>
      obtain ⟨h1, h2⟩ := bif_some h
      rw [← h2] at hk
      simp only [Bool.and_eq_true] at h1
      obtain ⟨h1, h3, h4, h5, h6⟩ := h1
      refine mmG_iff.mpr ⟨by rw [h1.1, h1.2]; rfl, mmG_iff.mpr ⟨by rw [h3, h4]; rfl, ?_⟩⟩
      have h6 := Nat.le_of_ble_eq_true h6
      have hk : k ls s (toH (c.1, c.2.1, (v.2.toNat * 65536 + (l.headD 0).toNat, u.2) :: c.2.2)) := hk
      have e := toH_put (n := c.1) (z := c.2.1) (l := c.2.2) (k := v.2) (i := (((l.headD 0).toNat : Nat) : Int)) (v := u.2) (of_decide_eq_true h5) (by omega)
      rw [Int.toNat_natCast] at e
      rw [e] at hk
      exact hk
  | 12, h =>
    match st, h with
    | i :: v :: s, h =>
      obtain ⟨h1, h2⟩ := bif_some h
      rw [← h2] at hk
      simp only [Bool.and_eq_true] at h1
      exact mmG_iff.mpr ⟨by rw [h1.1.1, h1.1.2]; rfl, mmG_iff.mpr ⟨h1.2.1, mmD_iff.mpr ⟨of_decide_eq_true h1.2.2, hk⟩⟩⟩
  | 13, h =>
    match st, h with
    | x :: i :: v :: s, h =>
      obtain ⟨h1, h2⟩ := bif_some h
      rw [← h2] at hk
      simp only [Bool.and_eq_true] at h1
      obtain ⟨⟨a1, a2, a3⟩, ⟨b1, b2, b3, b4⟩, d1, d2⟩ := h1
      have d1 := of_decide_eq_true d1
      refine mmG_iff.mpr ⟨by rw [a1, a2, a3]; rfl, mmG_iff.mpr ⟨by rw [b1, b2]; rfl, mmD_iff.mpr ⟨d1, mmG_iff.mpr ⟨d2, ?_⟩⟩⟩⟩
      have hk : k ls s (toH (c.1, c.2.1, (v.2.toNat * 65536 + i.2.toNat, x.2) :: c.2.2)) := hk
      rw [toH_put (n := c.1) (z := c.2.1) (l := c.2.2) (k := v.2) (i := i.2) (v := x.2) (of_decide_eq_true b3) ⟨d1.1, of_decide_eq_true b4⟩] at hk
      exact hk
  | 16, h =>
    match st, h with
    | y :: x :: s, h =>
      show mmG _ _
      have h : (bif Nat.beq y.1 1 && Nat.beq x.1 1 then (match cCd a.toNat x.2 y.2 with | some true => some (some (l.headD 0).toNat, ls, s, c) | some false => some (none, ls, s, c) | none => none) else none) = some r := h
      cases hb : Nat.beq y.1 1 && Nat.beq x.1 1 with
      | false => rw [hb] at h; cases h
      | true =>
        rw [hb] at h
        refine mmG_iff.mpr ⟨rfl, ?_⟩
        cases hc : cCd a.toNat x.2 y.2 with
        | none => rw [hc] at h; cases h
        | some z =>
          rw [hc] at h
          have hz := cCd_ok hc
          cases z with
          | true =>
            have h : some (some (l.headD 0).toNat, ls, s, c) = some r := h
            rw [← Option.some.inj h] at hk
            exact ⟨fun _ => hk, fun q => absurd (hz.mp rfl) q⟩
          | false =>
            have h : some (none, ls, s, c) = some r := h
            rw [← Option.some.inj h] at hk
            exact ⟨fun q => absurd (hz.mpr q) (by decide), fun _ => hk⟩
  | 17, h =>
    have h : some (some a.toNat, ls, st, c) = some r := h
    rw [← Option.some.inj h] at hk
    exact hk
  | 22, h =>
    obtain ⟨h1, h2⟩ := bif_some h
    rw [← h2] at hk
    simp only [Bool.and_eq_true] at h1
    obtain ⟨⟨a1, a2⟩, ⟨b1, b2⟩, d1, d2⟩ := h1
    have a2 := Nat.le_of_ble_eq_true a2
    have b1 := Nat.le_of_ble_eq_true b1
    have b2 := Nat.le_of_ble_eq_true b2
    have d2 := Nat.le_of_ble_eq_true d2
    have e0 : toH c 0 0 = (c.1 : Int) := by rw [toH_0, if_pos rfl]
    have e1 : toH c 0 1 = (c.2.1 : Int) := by rw [toH_0, if_neg (by decide), if_pos rfl]
    show ((tSh (toH c 0 0)).1 = a.toNat ∧ (tSh (toH c 0 0)).2 < 1000) ∧ (toH c 0 0 - n0 + 1 ≤ mc ∧ toH c 0 1 - z0 + ((tSh (toH c 0 0)).2 : Int) ≤ ms) ∧ k ls ((3, toH c 0 0) :: st) (mmS (mmS (mmZ (toH c)) 0 0 (toH c 0 0 + 1)) 0 1 (toH c 0 1 + ((tSh (toH c 0 0)).2 : Int)))
    rw [toH_Z d1 (by omega), e0, e1]
    refine ⟨⟨mm_beq a1, by omega⟩, ⟨by omega, by omega⟩, ?_⟩
    have e : mmS (mmS (toH c) 0 0 ((c.1 : Int) + 1)) 0 1 ((c.2.1 : Int) + ((tSh c.1).2 : Int)) = toH (c.1 + 1, c.2.1 + (tSh c.1).2, c.2.2) := toH_cnt (n := c.1) (z := c.2.1) (l := c.2.2) (n' := c.1 + 1) (z' := c.2.1 + (tSh c.1).2)
    rw [e]
    exact hk
  | 23, h =>
    match st, h with
    | v :: s, h =>
      obtain ⟨h1, h2⟩ := bif_some h
      rw [← h2] at hk
      simp only [Bool.and_eq_true] at h1
      obtain ⟨a0, ⟨a1, a3, a2⟩, ⟨b1, b2⟩, d1, d2⟩ := h1
      have a2 := Nat.le_of_ble_eq_true a2
      have a3 := of_decide_eq_true a3
      have b1 := Nat.le_of_ble_eq_true b1
      have b2 := Nat.le_of_ble_eq_true b2
      have d2 := Nat.le_of_ble_eq_true d2
      have e0 : toH c 0 0 = (c.1 : Int) := by rw [toH_0, if_pos rfl]
      have e1 : toH c 0 1 = (c.2.1 : Int) := by rw [toH_0, if_neg (by decide), if_pos rfl]
      refine mmG_iff.mpr ⟨a0, ?_⟩
      show ((tSh (toH c 0 0)).1 = 100 + a.toNat ∧ ((tSh (toH c 0 0)).2 : Int) = v.2 ∧ v.2 < 65536) ∧ (toH c 0 0 - n0 + 1 ≤ mc ∧ toH c 0 1 - z0 + v.2 ≤ ms) ∧ k ls ((3, toH c 0 0) :: s) (mmS (mmS (mmZ (toH c)) 0 0 (toH c 0 0 + 1)) 0 1 (toH c 0 1 + v.2))
      rw [toH_Z d1 (by omega), e0, e1, ← a3]
      refine ⟨⟨mm_beq a1, rfl, by omega⟩, ⟨by omega, by omega⟩, ?_⟩
      have e : mmS (mmS (toH c) 0 0 ((c.1 : Int) + 1)) 0 1 ((c.2.1 : Int) + ((tSh c.1).2 : Int)) = toH (c.1 + 1, c.2.1 + (tSh c.1).2, c.2.2) := toH_cnt (n := c.1) (z := c.2.1) (l := c.2.2) (n' := c.1 + 1) (z' := c.2.1 + (tSh c.1).2)
      rw [e]
      exact hk
  | 24, h =>
    match st, h with
    | y :: x :: s, h =>
      obtain ⟨h1, h2⟩ := bif_some h
      rw [← h2] at hk
      simp only [Bool.and_eq_true] at h1
      obtain ⟨⟨a0, a00⟩, ⟨a1, a3, a2⟩, f1, ⟨g1, g2⟩, ⟨b1, b2⟩, d1, d2⟩ := h1
      have a2 := Nat.le_of_ble_eq_true a2
      have a3 := of_decide_eq_true a3
      have g1 := of_decide_eq_true g1
      have g2 := of_decide_eq_true g2
      have b1 := Nat.le_of_ble_eq_true b1
      have b2 := Nat.le_of_ble_eq_true b2
      have d2 := Nat.le_of_ble_eq_true d2
      have e0 : toH c 0 0 = (c.1 : Int) := by rw [toH_0, if_pos rfl]
      have e1 : toH c 0 1 = (c.2.1 : Int) := by rw [toH_0, if_neg (by decide), if_pos rfl]
      refine mmG_iff.mpr ⟨by rw [a0, a00]; rfl, ?_⟩
      rw [e0, e1, ← a3]
      have ey : ((y.2.toNat : Nat) : Int) = y.2 := by omega
      refine ⟨⟨mm_beq a1, rfl, by omega⟩, fun j hj => ?_, ⟨g1, g2⟩, ⟨by omega, ?_⟩, ?_⟩
      · have := List.all_eq_true.mp f1 j (List.mem_range.mpr (by omega))
        simp only [Bool.and_eq_true] at this
        have ec : ((c.1 + 1 + j : Nat) : Int) = (c.1 : Int) + 1 + (j : Int) := by omega
        rw [ec] at this
        exact ⟨mm_beq this.1, of_decide_eq_true this.2⟩
      · have : (((tSh c.1).2 * y.2.toNat : Nat) : Int) = ((tSh c.1).2 : Int) * y.2 := by rw [Int.natCast_mul, ey]
        omega
      · have e := toH_rows (n := c.1) (z := c.2.1) (l := c.2.2) (m := (tSh c.1).2) d1 (by omega) (by omega)
        have e' : mmRows (toH c) ((tSh c.1).2 : Int) = toH (c.1, c.2.1, cRows c.1 (tSh c.1).2 c.2.2) := e
        rw [e']
        have ez : (c.2.1 : Int) + (((tSh c.1).2 : Int) + ((tSh c.1).2 : Int) * y.2) = ((c.2.1 + ((tSh c.1).2 + (tSh c.1).2 * y.2.toNat) : Nat) : Int) := by
          rw [Int.natCast_add, Int.natCast_add, Int.natCast_mul, ey]
        have en : (c.1 : Int) + (1 + ((tSh c.1).2 : Int)) = ((c.1 + (1 + (tSh c.1).2) : Nat) : Int) := by omega
        rw [ez, en, toH_cnt]
        exact hk
  | 26, h =>
    match st, h with
    | v :: s, h =>
      obtain ⟨h1, h2⟩ := bif_some h
      rw [← h2] at hk
      simp only [Bool.and_eq_true] at h1
      exact mmG_iff.mpr ⟨by rw [h1.1.1, h1.1.2]; rfl, mmD_iff.mpr ⟨of_decide_eq_true h1.2, hk⟩⟩
  | 29, h =>
    match st, h with
    | v :: s, h =>
      obtain ⟨h1, h2⟩ := bif_some h
      rw [← h2] at hk
      exact mmG_iff.mpr ⟨h1, hk⟩
  | 30, h =>
    match st, h with
    | i :: v :: s, h =>
      obtain ⟨h1, h2⟩ := bif_some h
      rw [← h2] at hk
      simp only [Bool.and_eq_true] at h1
      exact mmG_iff.mpr ⟨by rw [h1.1.1, h1.1.2.1, h1.1.2.2]; rfl, of_decide_eq_true h1.2, hk⟩
  | 5, h => exact nope h
  | 6, h => exact nope h
  | 7, h => exact nope h
  | 8, h => exact nope h
  | 14, h => exact nope h
  | 15, h => exact nope h
  | 18, h => exact nope h
  | 19, h => exact nope h
  | 20, h => exact nope h
  | 21, h => exact nope h
  | 25, h => exact nope h
  | 27, h => exact nope h
  | 28, h => exact nope h
  | n + 31, h => exact nope h
end GS
section GT
theorem cRet_ok {Q : Int → mmH → Prop} {t : Nat} {ls st : List mmV} {c c' : cH} {x : Int} (h : cRet t st c = some (x, c')) (hq : Q x (toH c')) : oRet Q t ls st (toH c) := by
  unfold cRet at h
  unfold oRet
  split at h
  · split at h
    · have := Option.some.inj h
      cases this
      exact hq
    · cases h
  · cases h
  · next n1 n2 n3 =>
    split at h
    · next v =>
      obtain ⟨h1, h2⟩ := bif_some h
      cases h2
      split
      · exact absurd rfl (by assumption)
      · exact absurd rfl (by assumption)
      · exact mmG_iff.mpr ⟨h1, hq⟩
    · cases h
set_option maxHeartbeats 4000000 in
theorem cEx_ok : ∀ (f dd w n0 z0 mc ms : Nat) (B : List (List mmOp)) (ops : List mmOp) (ls st : List mmV) (c : cH) (x : Int) (c' : cH), cEx f dd w n0 z0 mc ms B ops ls st c = some (x, c') →
    ∀ (L : Int) (xs : Int → Int) (Q : Int → mmH → Prop) (X : Nat → mmKont), (∀ i ls st h, mmEx tSh tTg (fun _ _ => none) (tWn w) tMp (mmC tSh tTg (fun _ _ => none) tWn tMp tBl tL tTx0 dd) Q X n0 z0 mc ms L xs tTx0 (B.getD i []) ls st h → X i ls st h) → Q x (toH c') →
      mmEx tSh tTg (fun _ _ => none) (tWn w) tMp (mmC tSh tTg (fun _ _ => none) tWn tMp tBl tL tTx0 dd) Q X n0 z0 mc ms L xs tTx0 ops ls st (toH c) := by
  intro f
  induction f with
  | zero => intro dd w n0 z0 mc ms B ops ls st c x c' h; exact nope h
  | succ f ih =>
    intro dd w n0 z0 mc ms B ops ls st c x c' h L xs Q X hX hQ
    match ops, h with
    | [], h => exact nope h
    | (o, a, l) :: r, h =>
      show mmStep _ _ _ _ _ _ _ _ _ _ _ _ _ _ _ o a l (mmEx tSh tTg (fun _ _ => none) (tWn w) tMp (mmC tSh tTg (fun _ _ => none) tWn tMp tBl tL tTx0 dd) Q X n0 z0 mc ms L xs tTx0 r) ls st (toH c)
      by_cases o20 : o = 20
      · subst o20
        exact cRet_ok (ls := ls) h hQ
      · by_cases o21 : o = 21
        · subst o21
          match dd, h with
          | 0, h => exact nope h
          | d + 1, h =>
            show oCall _ _ _ _ _ _ _ a.toNat _ ls st (toH c)
            unfold oCall
            cases hp : mmPop (tMp a.toNat).1 st [] with
            | none =>
              exfalso
              unfold cEx at h
              simp only [hp] at h
              exact nope h
            | some q =>
              unfold cEx at h
              simp only [hp] at h
              cases hb : (Nat.ble (mmCat q.2) 8 && (Nat.beq (tMp a.toNat).2.2.1 99 || Nat.beq (tSh (q.1.headD 0)).1 (tMp a.toNat).2.2.1)) && (Nat.ble (c.1 + (tMp a.toNat).2.2.2.1) (n0 + mc) && Nat.ble (c.2.1 + (tMp a.toNat).2.2.2.2.1) (z0 + ms)) with
              | false => rw [hb] at h; exact nope h
              | true =>
                rw [hb] at h
                simp only [cond_true] at h
                simp only [Bool.and_eq_true] at hb
                obtain ⟨⟨h1, h2⟩, h3, h4⟩ := hb
                have h3 := Nat.le_of_ble_eq_true h3
                have h4 := Nat.le_of_ble_eq_true h4
                have e0 : toH c 0 0 = (c.1 : Int) := by rw [toH_0, if_pos rfl]
                have e1 : toH c 0 1 = (c.2.1 : Int) := by rw [toH_0, if_neg (by decide), if_pos rfl]
                cases hr : cEx f d (tMp a.toNat).2.2.2.2.2 c.1 c.2.1 (tMp a.toNat).2.2.2.1 (tMp a.toNat).2.2.2.2.1 (tBl a.toNat) ((tBl a.toNat).getD 0 []) (mmIl (tMp a.toNat).1.reverse q.1 (tL a.toNat)) [] c with
                | none => rw [hr] at h; exact nope h
                | some y =>
                  obtain ⟨x1, c1⟩ := y
                  rw [hr] at h
                  simp only [] at h
                  cases hg : (Nat.beq (tMp a.toNat).2.2.2.1 0 && Nat.beq (tMp a.toNat).2.2.2.2.1 0) || (Nat.beq c1.1 (c.1 + (tMp a.toNat).2.2.2.1) && Nat.beq c1.2.1 (c.2.1 + (tMp a.toNat).2.2.2.2.1)) with
                  | false => rw [hg] at h; exact nope h
                  | true =>
                    rw [hg] at h
                    simp only [cond_true] at h
                    refine mmG_iff.mpr ⟨h1, mmG_iff.mpr ⟨h2, mmG_iff.mpr ⟨?_, ?_⟩⟩⟩
                    · rw [e0, e1]
                      simp only [Bool.or_eq_true]
                      right
                      exact decide_eq_true ⟨by omega, by omega⟩
                    · intro X2 hX2
                      rw [e0, e1] at hX2
                      refine hX2 0 _ _ _ (ih d _ _ _ _ _ _ _ _ _ c x1 c1 hr 0 (fun _ => 0) _ X2 hX2 ⟨?_, ?_⟩)
                      · unfold mmGrow
                        simp only [Bool.or_eq_true, Bool.and_eq_true] at hg
                        rcases hg with hg | hg
                        · exact Or.inl ⟨mm_beq hg.1, mm_beq hg.2⟩
                        · refine Or.inr ⟨?_, ?_⟩
                          · rw [toH_0, if_pos rfl, e0, mm_beq hg.1]; omega
                          · rw [toH_0, if_neg (by decide), if_pos rfl, e1, mm_beq hg.2]; omega
                      · exact ih (d + 1) w n0 z0 mc ms B r _ _ c1 x c' h L xs Q X hX hQ
        · have e : cEx (f + 1) dd w n0 z0 mc ms B ((o, a, l) :: r) ls st c = (match cStep w n0 z0 mc ms o a l ls st c with
            | some (some b, ls', st', c') => cEx f dd w n0 z0 mc ms B (B.getD b []) ls' st' c'
            | some (none, ls', st', c') => cEx f dd w n0 z0 mc ms B r ls' st' c'
            | none => none) := by
            show (bif Nat.beq o 20 then _ else bif Nat.beq o 21 then _ else _) = _
            rw [beq_no o20, beq_no o21]
            rfl
          rw [e] at h
          cases hs : cStep w n0 z0 mc ms o a l ls st c with
          | none => rw [hs] at h; exact nope h
          | some y =>
            rw [hs] at h
            refine cStep_ok hs ?_
            obtain ⟨j, ls2, st2, c2⟩ := y
            cases j with
            | none => exact ih dd w n0 z0 mc ms B r ls2 st2 c2 x c' h L xs Q X hX hQ
            | some b => exact hX b ls2 st2 _ (ih dd w n0 z0 mc ms B _ ls2 st2 c2 x c' h L xs Q X hX hQ)
def cMet (f d mi : Nat) (as : List Int) (c : cH) : Option (Int × cH) := cEx f d (tMp mi).2.2.2.2.2 c.1 c.2.1 (tMp mi).2.2.2.1 (tMp mi).2.2.2.2.1 (tBl mi) ((tBl mi).getD 0 []) (mmIl (tMp mi).1.reverse as (tL mi)) [] c
def cGrow (mi : Nat) (c c' : cH) : Bool := (Nat.beq (tMp mi).2.2.2.1 0 && Nat.beq (tMp mi).2.2.2.2.1 0) || (Nat.beq c'.1 (c.1 + (tMp mi).2.2.2.1) && Nat.beq c'.2.1 (c.2.1 + (tMp mi).2.2.2.2.1))
theorem cMet_ok {f d mi : Nat} {as : List Int} {c c' : cH} {x : Int} {Q : Int → mmH → Prop} (h : cMet f d mi as c = some (x, c')) (hg : cGrow mi c c' = true) (hQ : Q x (toH c')) : mmC tSh tTg (fun _ _ => none) tWn tMp tBl tL tTx0 (d + 1) mi as (toH c) Q := by
  have e0 : toH c 0 0 = (c.1 : Int) := by rw [toH_0, if_pos rfl]
  have e1 : toH c 0 1 = (c.2.1 : Int) := by rw [toH_0, if_neg (by decide), if_pos rfl]
  intro X2 hX2
  rw [e0, e1] at hX2
  refine hX2 0 _ _ _ (cEx_ok f d _ _ _ _ _ _ _ _ _ c x c' h 0 (fun _ => 0) _ X2 hX2 ⟨?_, hQ⟩)
  unfold mmGrow
  unfold cGrow at hg
  simp only [Bool.or_eq_true, Bool.and_eq_true] at hg
  rcases hg with hg | hg
  · exact Or.inl ⟨mm_beq hg.1, mm_beq hg.2⟩
  · refine Or.inr ⟨?_, ?_⟩
    · rw [toH_0, if_pos rfl, e0, mm_beq hg.1]; omega
    · rw [toH_0, if_neg (by decide), if_pos rfl, e1, mm_beq hg.2]; omega
end GT
