/-! ===== mm: what a small heap is on the machine ===== -/
section MW
variable (sh : Int → Nat × Nat) (tg : Nat → Nat → Nat) (B b g : Nat) (aC : Nat → ClassId)
def mmVal (v : mmV) : Value := match v.1 with
  | 1 => .int (Int32.ofInt v.2)
  | 2 => .long (Int64.ofInt v.2)
  | 3 => if v.2 = 0 then .null else .ref (B + v.2.toNat)
  | 4 => .ref b
  | 5 => .ref g
  | _ => .null
def mmOk (n : Int) (v : mmV) : Prop := match v.1 with
  | 1 => -2147483648 ≤ v.2 ∧ v.2 < 2147483648
  | 2 => -9223372036854775808 ≤ v.2 ∧ v.2 < 9223372036854775808
  | 3 => 0 ≤ v.2 ∧ v.2 < n
  | _ => True
def mmAr (kd : Nat) (f : Int → Int) : (Nat → Int32) ⊕ (Nat → Int64) ⊕ (Nat → UInt32) ⊕ (Nat → UInt64) ⊕ (Nat → Option Nat) := match kd with
  | 1 => .inr (.inl (fun j => Int64.ofInt (f j)))
  | 4 => .inr (.inr (.inr (.inr (fun j => if f j = 0 then none else some (B + (f j).toNat)))))
  | 5 => .inr (.inr (.inr (.inr (fun j => if f j = 0 then none else some (B + (f j).toNat)))))
  | _ => .inl (fun j => Int32.ofInt (f j))
/-- the tag of a slot -/
def mmTg (k : Int) (s : Nat) : Nat := if (sh k).1 < 100 then tg (sh k).1 s else mmEt ((sh k).1 - 100)
def mmE (k : Int) (f : Int → Int) : va_E := if (sh k).1 < 100 then .inr ((sh k).1, (List.range (sh k).2).map (fun s : Nat => mmVal B b g (tg (sh k).1 s, f s))) else .inl (aC ((sh k).1 - 100), (sh k).2, mmAr B ((sh k).1 - 100) f)
def mmWs (h : mmH) : va_W := (List.range ((h 0 0).toNat - 1)).map (fun k : Nat => (B + (k + 1), mmE sh tg B b g aC ((k : Int) + 1) (h ((k : Int) + 1))))
def mmOkH (h : mmH) : Prop := 1 ≤ h 0 0 ∧ 0 ≤ h 0 1 ∧ ∀ k : Int, 1 ≤ k → k < h 0 0 → (sh k).2 < 2147483648 ∧ ∀ s : Nat, s < (sh k).2 → mmOk (h 0 0) (mmTg sh tg k s, h k s)
def mmA (q : Nat) : Prop := B + 1 ≤ q
def mmWH (D : va_G) (cl : List vw_C) (H0 : Heap) (h : mmH) (H : Heap) (locs : List Loc) : Prop :=
  va_P D cl (mmWs sh tg B b g aC h) H ∧ H.size = B + (h 0 0).toNat ∧ va_S (mmA B) H0 H locs ∧ mmOkH sh tg h
theorem mmWs_get {h : mmH} {k : Int} (h1 : 1 ≤ k) (h2 : k < h 0 0) : (mmWs sh tg B b g aC h)[k.toNat - 1]? = some (B + k.toNat, mmE sh tg B b g aC k (h k)) := by
  unfold mmWs
  rw [List.getElem?_map, List.getElem?_range (by omega)]
  have e : ((k.toNat - 1 : Nat) : Int) + 1 = k := by omega
  simp only [Option.map_some, e]
  have e2 : k.toNat - 1 + 1 = k.toNat := by omega
  rw [e2]
theorem mmWs_len (h : mmH) : (mmWs sh tg B b g aC h).length = (h 0 0).toNat - 1 := by simp [mmWs]
theorem mmWs_set {h h' : mmH} {k : Int} (h1 : 1 ≤ k) (h2 : k < h 0 0) (hn : h' 0 0 = h 0 0) (ho : ∀ j : Int, 1 ≤ j → j ≠ k → h' j = h j) {a : Nat} (ha : a = B + k.toNat) :
    (mmWs sh tg B b g aC h).set (k.toNat - 1) (a, mmE sh tg B b g aC k (h' k)) = mmWs sh tg B b g aC h' := by
  apply List.ext_getElem?
  intro i
  by_cases hi : i = k.toNat - 1
  · subst hi
    rw [List.getElem?_set_self (by rw [mmWs_len]; omega), mmWs_get sh tg B b g aC h1 (by rw [hn]; exact h2), ha]
  · rw [List.getElem?_set_ne (Ne.symm hi)]
    by_cases hl : i < (h 0 0).toNat - 1
    · have q1 : (1 : Int) ≤ (i : Int) + 1 := by omega
      have q2 : (i : Int) + 1 < h 0 0 := by omega
      have e1 := mmWs_get sh tg B b g aC q1 q2
      have e2 := mmWs_get sh tg B b g aC (h := h') q1 (by rw [hn]; exact q2)
      have e3 : ((i : Int) + 1).toNat - 1 = i := by omega
      rw [e3] at e1 e2
      rw [e1, e2, ho _ q1 (by omega)]
    · rw [List.getElem?_eq_none (by rw [mmWs_len]; omega), List.getElem?_eq_none (by rw [mmWs_len, hn]; omega)]
theorem mmWs_D (h : mmH) : va_D (mmA B) (mmWs sh tg B b g aC h) := by
  have key : ∀ (i : Nat) (p : Nat × va_E), (mmWs sh tg B b g aC h)[i]? = some p → p.1 = B + (i + 1) := by
    intro i p hp
    unfold mmWs at hp
    rw [List.getElem?_map] at hp
    cases hr : (List.range ((h 0 0).toNat - 1))[i]? with
    | none => rw [hr] at hp; cases hp
    | some j =>
      rw [hr] at hp
      obtain ⟨hj, rfl⟩ := List.getElem?_eq_some_iff.mp hr
      simp only [Option.map_some, Option.some.injEq] at hp
      rw [← hp]
      simp
  refine ⟨fun i j p q hi hj hpq => ?_, fun k q hk => ?_⟩
  · have a1 := key i p hi
    have a2 := key j q hj
    omega
  · have a1 := key k q hk
    unfold mmA
    omega
/-- a store: the world behind it -/
theorem mmWs_put {h : mmH} {k i v : Int} (h1 : 1 ≤ k) (h2 : k < h 0 0) {a : Nat} {e : va_E} (ha : a = B + k.toNat) (he : e = mmE sh tg B b g aC k (mmS h k i v k)) :
    (mmWs sh tg B b g aC h).set (k.toNat - 1) (a, e) = mmWs sh tg B b g aC (mmS h k i v) := by
  subst he
  refine mmWs_set sh tg B b g aC h1 h2 ?_ (fun j _ hj => ?_) ha
  · exact mmS_cell (by omega)
  · funext z
    exact mmS_cell hj
theorem mmOk_mono {n n' : Int} {v : mmV} (h : mmOk n v) (hn : n ≤ n') : mmOk n' v := by
  obtain ⟨t, x⟩ := v
  match t, h with
  | 0, h => trivial
  | 1, h => exact h
  | 2, h => exact h
  | 3, h => exact ⟨h.1, Int.lt_of_lt_of_le h.2 hn⟩
  | 4, h => trivial
  | 5, h => trivial
  | t + 6, h => trivial
theorem mmOkH_put {h : mmH} {k v : Int} {i : Nat} (H : mmOkH sh tg h) (h1 : 1 ≤ k) (hv : mmOk (h 0 0) (mmTg sh tg k i, v)) : mmOkH sh tg (mmS h k i v) := by
  obtain ⟨q0, q1, q2⟩ := H
  have e0 : mmS h k i v 0 0 = h 0 0 := mmS_cell (by omega)
  have e1 : mmS h k i v 0 1 = h 0 1 := mmS_cell (by omega)
  refine ⟨by rw [e0]; exact q0, by rw [e1]; exact q1, fun a ha hb => ?_⟩
  rw [e0] at hb ⊢
  obtain ⟨p1, p2⟩ := q2 a ha hb
  refine ⟨p1, fun s hs => ?_⟩
  by_cases e : a = k
  · subst e
    rw [mmS_slot]
    by_cases e2 : (s : Int) = i
    · rw [if_pos e2]
      have : s = i := by omega
      rw [this]
      exact hv
    · rw [if_neg e2]
      exact p2 s hs
  · rw [mmS_cell e]
    exact p2 s hs
/-- the locals that are there -/
def mmLv (ls : List mmV) : List (Nat × Value) := (List.range ls.length).filterMap (fun i => if (ls.getD i (0, 0)).1 = 0 then none else some (i, mmVal B b g (ls.getD i (0, 0))))
theorem mmLv_in {ls : List mmV} {i : Nat} {w : Value} : (i, w) ∈ mmLv B b g ls ↔ i < ls.length ∧ (ls.getD i (0, 0)).1 ≠ 0 ∧ w = mmVal B b g (ls.getD i (0, 0)) := by
  unfold mmLv
  rw [List.mem_filterMap]
  constructor
  · rintro ⟨j, hj, h⟩
    rw [List.mem_range] at hj
    by_cases e : (ls.getD j (0, 0)).1 = 0
    · rw [if_pos e] at h; cases h
    · rw [if_neg e] at h
      obtain ⟨rfl, rfl⟩ := Prod.mk.inj (Option.some.inj h)
      exact ⟨hj, e, rfl⟩
  · rintro ⟨h1, h2, rfl⟩
    exact ⟨i, List.mem_range.mpr h1, by rw [if_neg h2]⟩
theorem mmLv_get {ls : List mmV} {lsA : Array Slot} {nL i t : Nat} (h : lv_has lsA nL (mmLv B b g ls)) (ht : (ls.getD i (0, 0)).1 = t) (h0 : 0 < t) : lsA[i]? = some (.val (mmVal B b g (t, (ls.getD i (0, 0)).2))) := by
  have hi : i < ls.length := by
    apply Classical.byContradiction
    intro hn
    rw [List.getD_eq_getElem?_getD, List.getElem?_eq_none (by omega)] at ht
    simp at ht
    omega
  have := h.2.2 (i, mmVal B b g (ls.getD i (0, 0))) ((mmLv_in B b g).mpr ⟨hi, by omega, rfl⟩)
  rw [← ht]
  exact this
theorem mmVal_cat {v : mmV} : (mmVal B b g v).category = if v.1 = 2 then 2 else 1 := by
  obtain ⟨t, x⟩ := v
  match t with
  | 0 => rfl
  | 1 => rfl
  | 2 => rfl
  | 3 => by_cases e : x = 0 <;> simp [mmVal, e, Value.category]
  | 4 => rfl
  | 5 => rfl
  | t + 6 => simp [mmVal, Value.category]
theorem lv_less {lsA : Array Slot} {nL : Nat} {l l' : List (Nat × Value)} (h : lv_has lsA nL l) (hl : ∀ q ∈ l', q ∈ l) : lv_has lsA nL l' := ⟨h.1, h.2.1, fun q hq => h.2.2 q (hl q hq)⟩
theorem mmUn_len (ls : List mmV) (i : Nat) : (mmUn ls i).length = ls.length := by
  unfold mmUn
  cases i with
  | zero => rfl
  | succ j => simp only []; cases Nat.beq (ls.getD j (0, 0)).1 2 <;> simp
theorem mmSt_len (ls : List mmV) (i t : Nat) (x : Int) : (mmSt ls i t x).length = ls.length := by
  unfold mmSt
  cases Nat.beq t 2 <;> simp [mmUn_len]
/-- what stands in another local behind a store -/
theorem mmUn_at {ls : List mmV} {i j : Nat} (h : ((mmUn ls i).getD j (0, 0)).1 ≠ 0) : (mmUn ls i).getD j (0, 0) = ls.getD j (0, 0) ∧ ¬ (j + 1 = i ∧ (ls.getD j (0, 0)).1 = 2) := by
  cases i with
  | zero => exact ⟨rfl, by omega⟩
  | succ k =>
    unfold mmUn at h ⊢
    simp only [] at h ⊢
    cases e : Nat.beq (ls.getD k (0, 0)).1 2 with
    | false =>
      rw [e] at h
      simp only [cond_false] at h ⊢
      refine ⟨by trivial, fun q => ?_⟩
      have : j = k := by omega
      subst this
      rw [q.2] at e
      cases e
    | true =>
      rw [e] at h
      simp only [cond_true] at h ⊢
      by_cases hk : j = k
      · subst hk
        exfalso
        apply h
        rw [List.getD_eq_getElem?_getD, List.getElem?_set]
        simp
        split <;> rfl
      · rw [List.getD_eq_getElem?_getD, List.getElem?_set_ne (Ne.symm hk), ← List.getD_eq_getElem?_getD]
        exact ⟨rfl, by omega⟩
theorem mm_beq {a b : Nat} (h : Nat.beq a b = true) : a = b := Nat.eq_of_beq_eq_true h
theorem mm_blt {a b : Nat} (h : Nat.blt a b = true) : a < b := by
  unfold Nat.blt at h
  exact Nat.le_of_ble_eq_true h
theorem mm_ble {a b : Nat} (h : Nat.ble a b = true) : a ≤ b := Nat.le_of_ble_eq_true h
theorem getD_set_self {ls : List mmV} {i : Nat} {v : mmV} (h : i < ls.length) : (ls.set i v).getD i (0, 0) = v := by
  rw [List.getD_eq_getElem?_getD, List.getElem?_set_self h]
  rfl
theorem getD_set_ne {ls : List mmV} {i j : Nat} {v : mmV} (h : j ≠ i) : (ls.set i v).getD j (0, 0) = ls.getD j (0, 0) := by
  rw [List.getD_eq_getElem?_getD, List.getElem?_set_ne (Ne.symm h), ← List.getD_eq_getElem?_getD]
/-- a store of one word -/
theorem mmLv_st1 {ls : List mmV} {lsA : Array Slot} {nL i t : Nat} {x : Int} (ht : t ≠ 2) (hf : mmFits ls i t = true)
    (h : lv_has lsA nL ((i, mmVal B b g (t, x)) :: (mmLv B b g ls).filter (fun q => !(q.1 == i) && !(q.1 + 1 == i && q.2.category == 2)))) : lv_has lsA nL (mmLv B b g (mmSt ls i t x)) := by
  have hb : Nat.beq t 2 = false := by
    cases e : Nat.beq t 2 with
    | false => rfl
    | true => exact absurd (mm_beq e) ht
  have hl : i < ls.length := by
    unfold mmFits at hf
    rw [hb] at hf
    exact mm_blt hf
  refine lv_less h fun q hq => ?_
  obtain ⟨j, w⟩ := q
  obtain ⟨h1, h2, rfl⟩ := (mmLv_in B b g).mp hq
  rw [mmSt_len] at h1
  have e : mmSt ls i t x = (mmUn ls i).set i (t, x) := by
    unfold mmSt
    rw [hb]
    rfl
  rw [e] at h2 ⊢
  by_cases hj : j = i
  · subst hj
    rw [getD_set_self (by rw [mmUn_len]; exact hl)]
    exact List.mem_cons_self
  · rw [getD_set_ne hj] at h2 ⊢
    obtain ⟨e1, e2⟩ := mmUn_at h2
    rw [e1] at h2 ⊢
    refine List.mem_cons_of_mem _ (List.mem_filter.mpr ⟨(mmLv_in B b g).mpr ⟨h1, h2, rfl⟩, ?_⟩)
    simp only [mmVal_cat]
    by_cases c1 : j + 1 = i
    · have c2 : ¬ (ls.getD j (0, 0)).1 = 2 := fun q => e2 ⟨c1, q⟩
      simp [hj]; exact Or.inr (by simpa using c2)
    · simp [hj, c1]
/-- a store of two words -/
theorem mmLv_st2 {ls : List mmV} {lsA : Array Slot} {nL i : Nat} {x : Int} (hf : mmFits ls i 2 = true)
    (h : lv_has lsA nL ((i, mmVal B b g (2, x)) :: (mmLv B b g ls).filter (fun q => !(q.1 == i) && (!(q.1 == i + 1) && !(q.1 + 1 == i && q.2.category == 2))))) : lv_has lsA nL (mmLv B b g (mmSt ls i 2 x)) := by
  have hl : i + 1 < ls.length := mm_blt hf
  refine lv_less h fun q hq => ?_
  obtain ⟨j, w⟩ := q
  obtain ⟨h1, h2, rfl⟩ := (mmLv_in B b g).mp hq
  rw [mmSt_len] at h1
  have e : mmSt ls i 2 x = ((mmUn ls i).set i (2, x)).set (i + 1) (0, 0) := rfl
  rw [e] at h2 ⊢
  by_cases hj1 : j = i + 1
  · subst hj1
    rw [getD_set_self (by rw [List.length_set, mmUn_len]; exact hl)] at h2
    exact absurd rfl h2
  rw [getD_set_ne hj1] at h2 ⊢
  by_cases hj : j = i
  · subst hj
    rw [getD_set_self (by rw [mmUn_len]; omega)]
    exact List.mem_cons_self
  · rw [getD_set_ne hj] at h2 ⊢
    obtain ⟨e1, e2⟩ := mmUn_at h2
    rw [e1] at h2 ⊢
    refine List.mem_cons_of_mem _ (List.mem_filter.mpr ⟨(mmLv_in B b g).mpr ⟨h1, h2, rfl⟩, ?_⟩)
    simp only [mmVal_cat]
    by_cases c1 : j + 1 = i
    · have c2 : ¬ (ls.getD j (0, 0)).1 = 2 := fun q => e2 ⟨c1, q⟩
      simp [hj, hj1]; exact Or.inr (by simpa using c2)
    · simp [hj, hj1, c1]
theorem mmSt_ok {n : Int} {ls : List mmV} {i t : Nat} {x : Int} (h : ∀ v ∈ ls, mmOk n v) (hv : mmOk n (t, x)) : ∀ v ∈ mmSt ls i t x, mmOk n v := by
  have hs : ∀ (l : List mmV) (j : Nat) (w : mmV), (∀ v ∈ l, mmOk n v) → mmOk n w → ∀ v ∈ l.set j w, mmOk n v := by
    intro l j w hl hw v hv
    rcases List.mem_or_eq_of_mem_set hv with q | q
    · exact hl v q
    · rw [q]; exact hw
  have hu : ∀ v ∈ mmUn ls i, mmOk n v := by
    unfold mmUn
    cases i with
    | zero => exact h
    | succ j =>
      simp only []
      cases Nat.beq (ls.getD j (0, 0)).1 2 with
      | false => exact h
      | true => exact hs _ _ _ h trivial
  unfold mmSt
  cases Nat.beq t 2 with
  | false => exact hs _ _ _ hu hv
  | true => exact hs _ _ _ (hs _ _ _ hu hv) trivial
theorem mm_getD_ok {n : Int} {ls : List mmV} {i : Nat} (h : ∀ v ∈ ls, mmOk n v) : mmOk n (ls.getD i (0, 0)) := by
  by_cases hi : i < ls.length
  · rw [List.getD_eq_getElem?_getD, List.getElem?_eq_getElem hi]
    exact h _ (List.getElem_mem hi)
  · rw [List.getD_eq_getElem?_getD, List.getElem?_eq_none (by omega)]
    trivial
-- numbers
theorem mm_o32 (x : Int32) : Int32.ofInt x.toInt = x := Int32.ofInt_toInt x
theorem mm_o64 (x : Int64) : Int64.ofInt x.toInt = x := Int64.ofInt_toInt x
theorem mm_t32 {x : Int} (h1 : -2147483648 ≤ x) (h2 : x < 2147483648) : (Int32.ofInt x).toInt = x := Int32.toInt_ofInt_of_le h1 h2
theorem mm_t64 {x : Int} (h1 : -9223372036854775808 ≤ x) (h2 : x < 9223372036854775808) : (Int64.ofInt x).toInt = x := Int64.toInt_ofInt_of_le h1 h2
theorem mm_r32 (x : Int32) : -2147483648 ≤ x.toInt ∧ x.toInt < 2147483648 := ⟨Int32.le_toInt x, Int32.toInt_lt x⟩
theorem mm_r64 (x : Int64) : -9223372036854775808 ≤ x.toInt ∧ x.toInt < 9223372036854775808 := ⟨Int64.le_toInt x, Int64.toInt_lt x⟩
theorem mm_cl {x : Int} (h1 : 0 ≤ x) (h2 : x < 2147483648) : (Int32.ofInt x).toNatClampNeg = x.toNat := by
  show (Int32.ofInt x).toInt.toNat = x.toNat
  rw [mm_t32 (by omega) h2]
theorem mm_in {x : Int} {n : Nat} (h1 : 0 ≤ x) (h2 : x < n) (hn : n < 2147483648) : vp_in (Int32.ofInt x) n := by
  rw [vp_in_iff, mm_t32 (by omega) (by omega)]
  exact ⟨h1, h2⟩
end MW
