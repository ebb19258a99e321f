/-! ===== mm: max and min ===== -/
section MR9
variable {sh : Int → Nat × Nat} {tg : Nat → Nat → Nat} {B b g : Nat} {aC : Nat → ClassId} {p : Program} {l : Launch} {e : Env} {R : Room} {s : State} {m : MethodId} {args : Array Value} {below : List Frame} {meth : Method} {c : Code} {H0 : Heap} {D : va_G} {cl : List vw_C} {nL n0 z0 : Nat} {Qm : State → Prop}
variable {pc : Nat} {k : mmKont} {cc : ByteArray}
theorem mm_lt64 {x y : Int} {n : Int} (hx : mmOk n (2, x)) (hy : mmOk n (2, y)) : (Int64.ofInt x < Int64.ofInt y) ↔ x < y := by
  rw [Int64.lt_iff_toInt_lt, mm_t64 hx.1 hx.2, mm_t64 hy.1 hy.2]
theorem ks_mmax (hx : p.tables.exec = Jvm.exec) (hb : c.code = cc) (hml : c.maxLocals = nL) {own : String} {index f : Nat} (hown : s.vm.findClass own = some m.cls) (hini : (Cond.initialized "java/lang/Math").before args s = true) (hR : 1 ≤ R.frames ∧ 30 ≤ R.locals) (hd : decode cc pc = .ok (.invokestatic index, 3))
    (hw : (f = 0 ∧ (Cond.methodLink own index Lib.Math.max.name).before args s = true ∧ (Cond.static Lib.Math.max.name).before args s = true ∧ (Cond.code Lib.Math.max.name Lib.Math.max.code 2 (some .int)).before args s = true) ∨
      (f = 1 ∧ (Cond.methodLink own index Lib.Math.min.name).before args s = true ∧ (Cond.static Lib.Math.min.name).before args s = true ∧ (Cond.code Lib.Math.min.name Lib.Math.min.code 2 (some .int)).before args s = true) ∨
      (f = 2 ∧ (Cond.methodLink own index Lib.MathLoose.max_long.x).before args s = true ∧ (Cond.static Lib.MathLoose.max_long.x).before args s = true ∧ (Cond.code Lib.MathLoose.max_long.x Lib.MathLoose.max_long.code 4 (some .long)).before args s = true) ∨
      (f = 3 ∧ (Cond.methodLink own index Lib.MathLoose.min_long.x).before args s = true ∧ (Cond.static Lib.MathLoose.min_long.x).before args s = true ∧ (Cond.code Lib.MathLoose.min_long.x Lib.MathLoose.min_long.code 4 (some .long)).before args s = true))
    (hk : mmKS sh tg B b g aC p l e R s m args below meth c H0 D cl nL n0 z0 Qm (pc + 3) k) : mmKS sh tg B b g aC p l e R s m args below meth c H0 D cl nL n0 z0 Qm pc (oMath f k) := by
  intro ls st h H locs lsA hp hA
  have hcnt := hA.2.2.2.2.2
  have hsz : c.maxLocals = lsA.size := by rw [hml]; exact hA.1.1.symm
  match st, hp, hA with
  | ⟨t1, y⟩ :: ⟨t2, x⟩ :: r, hp, hA =>
    have hs := hA.okS
    have hy := mm_head hs
    have hz := mm_head (mm_tail hs)
    rcases hw with ⟨rfl, w1, w2, w3⟩ | ⟨rfl, w1, w2, w3⟩ | ⟨rfl, w1, w2, w3⟩ | ⟨rfl, w1, w2, w3⟩
    · obtain ⟨ht, hp2⟩ := mmG_iff.mp hp
      simp only [Bool.and_eq_true] at ht
      have e1 : t1 = 1 := mm_beq ht.1
      have e2 : t2 = 1 := mm_beq ht.2.1
      have hcat := mm_ble ht.2.2
      subst e1; subst e2
      have hok : mmOk (h 0 0) (1, mMax x y) := by unfold mMax; split <;> assumption
      have h2 := hk ls _ h H locs lsA hp2 (hA.stk (mm_cons hok (mm_tail (mm_tail hs))))
      refine va_mmax hx hb hsz hown w1 w2 hini w3 hR.1 (by rw [mm_cat]; omega) (by omega) (by omega) hd ?_
      have e : (if Int32.ofInt x < Int32.ofInt y then Int32.ofInt y else Int32.ofInt x) = Int32.ofInt (mMax x y) := by
        unfold mMax
        by_cases q : x < y
        · rw [if_pos q, if_pos ((mm_lt32 hz hy).mpr q)]
        · rw [if_neg q, if_neg (fun z => q ((mm_lt32 hz hy).mp z))]
      rw [e]
      exact h2
    · obtain ⟨ht, hp2⟩ := mmG_iff.mp hp
      simp only [Bool.and_eq_true] at ht
      have e1 : t1 = 1 := mm_beq ht.1
      have e2 : t2 = 1 := mm_beq ht.2.1
      have hcat := mm_ble ht.2.2
      subst e1; subst e2
      have hok : mmOk (h 0 0) (1, mMin x y) := by unfold mMin; split <;> assumption
      have h2 := hk ls _ h H locs lsA hp2 (hA.stk (mm_cons hok (mm_tail (mm_tail hs))))
      refine va_mmin hx hb hsz hown w1 w2 hini w3 hR.1 (by rw [mm_cat]; omega) (by omega) (by omega) hd ?_
      have e : (if Int32.ofInt y < Int32.ofInt x then Int32.ofInt y else Int32.ofInt x) = Int32.ofInt (mMin x y) := by
        unfold mMin
        by_cases q : y < x
        · rw [if_pos q, if_pos ((mm_lt32 hy hz).mpr q)]
        · rw [if_neg q, if_neg (fun z => q ((mm_lt32 hy hz).mp z))]
      rw [e]
      exact h2
    · obtain ⟨ht, hp2⟩ := mmG_iff.mp hp
      simp only [Bool.and_eq_true] at ht
      have e1 : t1 = 2 := mm_beq ht.1
      have e2 : t2 = 2 := mm_beq ht.2.1
      have hcat := mm_ble ht.2.2
      subst e1; subst e2
      have hok : mmOk (h 0 0) (2, mMax x y) := by unfold mMax; split <;> assumption
      have h2 := hk ls _ h H locs lsA hp2 (hA.stk (mm_cons hok (mm_tail (mm_tail hs))))
      refine va_mmax_long hx hb hsz hown w1 w2 hini w3 hR.1 (by rw [mm_cat]; omega) (by omega) (by omega) hd ?_
      have e : (if Int64.ofInt y < Int64.ofInt x then Int64.ofInt x else Int64.ofInt y) = Int64.ofInt (mMax x y) := by
        unfold mMax
        by_cases q : x < y
        · rw [if_pos q, if_neg (fun z => by have := (mm_lt64 hy hz).mp z; omega)]
        · rw [if_neg q]
          by_cases q2 : y < x
          · rw [if_pos ((mm_lt64 hy hz).mpr q2)]
          · have : x = y := by omega
            rw [this]
            split <;> rfl
      rw [e]
      exact h2
    · obtain ⟨ht, hp2⟩ := mmG_iff.mp hp
      simp only [Bool.and_eq_true] at ht
      have e1 : t1 = 2 := mm_beq ht.1
      have e2 : t2 = 2 := mm_beq ht.2.1
      have hcat := mm_ble ht.2.2
      subst e1; subst e2
      have hok : mmOk (h 0 0) (2, mMin x y) := by unfold mMin; split <;> assumption
      have h2 := hk ls _ h H locs lsA hp2 (hA.stk (mm_cons hok (mm_tail (mm_tail hs))))
      refine va_mmin_long hx hb hsz hown w1 w2 hini w3 hR.1 (by rw [mm_cat]; omega) (by omega) (by omega) hd ?_
      have e : (if Int64.ofInt y < Int64.ofInt x then Int64.ofInt y else Int64.ofInt x) = Int64.ofInt (mMin x y) := by
        unfold mMin
        by_cases q : y < x
        · rw [if_pos q, if_pos ((mm_lt64 hy hz).mpr q)]
        · rw [if_neg q, if_neg (fun z => q ((mm_lt64 hy hz).mp z))]
      rw [e]
      exact h2
end MR9
