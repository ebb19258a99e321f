/-! ===== mm: the text constant, max, min, floorDiv: as the small machine wants them ===== -/
def yFd : MethodName := ⟨"java/lang/Math", "floorDiv", "(JJ)J"⟩
theorem jw_fd : (Cond.methodLink "TileHeel$Laws" 85 yFd ∈ tTW ∧ Cond.static yFd ∈ tTW) ∧ Cond.initialized "java/lang/Math" ∈ tTW ∧ jIs 849 yFd 6 (some .long) = true ∧ jB 849 = Jvm.Free.JP.Math_floorDiv_JJ.yB := ⟨⟨tTW_in (i := 847) (by decide +kernel), tTW_in (i := 848) (by decide +kernel)⟩, tTW_in (i := 141) (by decide +kernel), by decide +kernel, by decide +kernel⟩
section H4
variable {sh : Int → Nat × Nat} {tg : Nat → Nat → Nat} {B b g : Nat} {aC : Nat → ClassId} {p : Program} {l : Launch} {e : Env} {R : Room} {s : State} {m : MethodId} {args : Array Value} {below : List Frame} {meth : Method} {c : Code} {H0 : Heap} {D : va_G} {cl : List vw_C} {nL n0 z0 : Nat} {Qm : State → Prop}
variable {pc : Nat} {k : mmKont} {cc : ByteArray}
theorem ks_fdiv (hx : p.tables.exec = Jvm.exec) (hb : c.code = cc) (hml : c.maxLocals = nL) {own : String} {index : Nat} (hown : s.vm.findClass own = some m.cls) (w1 : (Cond.methodLink own index yFd).before args s = true) (w2 : (Cond.static yFd).before args s = true) (w3 : (Cond.initialized "java/lang/Math").before args s = true) (w4 : (Cond.code yFd Jvm.Free.JP.Math_floorDiv_JJ.yB 6 (some .long)).before args s = true) (hR : 1 ≤ R.frames ∧ 30 ≤ R.locals) (hd : decode cc pc = .ok (.invokestatic index, 3))
    (hk : mmKS sh tg B b g aC p l e R s m args below meth c H0 D cl nL n0 z0 Qm (pc + 3) k) : mmKS sh tg B b g aC p l e R s m args below meth c H0 D cl nL n0 z0 Qm pc (oMath 4 k) := by
  intro ls st h H locs lsA hp hA
  have hcnt := hA.2.2.2.2.2
  have hsz : c.maxLocals = lsA.size := by rw [hml]; exact hA.1.1.symm
  match st, hp, hA with
  | ⟨t1, y⟩ :: ⟨t2, x⟩ :: r, hp, hA =>
    have hs := hA.okS
    have hy := mm_head hs
    obtain ⟨ht, hp⟩ := mmG_iff.mp hp
    obtain ⟨hy0, hp2⟩ := mmD_iff.mp hp
    simp only [Bool.and_eq_true] at ht
    have e1 : t1 = 2 := mm_beq ht.1
    have e2 : t2 = 2 := mm_beq ht.2.1
    have hcat := mm_ble ht.2.2
    subst e1; subst e2
    have hne : Int64.ofInt y ≠ 0 := fun q => by
      have := congrArg Int64.toInt q
      rw [mm_t64 hy.1 hy.2] at this
      exact hy0 this
    have hfd := nFdiv_def x y
    have hok : mmOk (h 0 0) (2, nFdiv x y) := by rw [hfd]; exact mm_ok2 _
    intro T hT X
    obtain ⟨v, T', X', ⟨hv, hh⟩, st⟩ := X.callS hx (Jvm.Free.JP.Math_floorDiv_JJ.law l (Int64.ofInt x) (Int64.ofInt y)) hown (index := index) (own := own) (fun w hw => by
      rcases List.mem_cons.mp hw with q | q
      · rw [q]; exact w1
      · rw [List.mem_singleton.mp q]; exact w2) (Jvm.Free.XT.unparts w4 (fun w hw => by rw [List.mem_singleton.mp hw]; exact w3)) (W := 8) (by omega) (by omega) (by omega) (by omega) (g := F0 m pc lsA ((((2, y) : mmV) :: (2, x) :: r).map (mmVal B b g))) rfl hsz.symm (s₀ := T.setTop (F0 m pc lsA ((((2, y) : mmV) :: (2, x) :: r).map (mmVal B b g)))) (Steps.refl _) (argsL := [.long (Int64.ofInt x), .long (Int64.ofInt y)]) (rest := r.map (mmVal B b g)) rfl rfl (by show 2 * 0 + _ ≤ 8; rw [mm_cat]; omega) (by rw [hb]; exact hd) ⟨rfl, hne⟩
    subst hv
    rw [List.append_nil] at X'
    obtain ⟨t2, a1, b1⟩ := hk ls _ h H locs lsA hp2 (hA.stk (mm_cons hok (mm_tail (mm_tail hs)))) T' (hh.trans hT) X'
    refine ⟨t2, st.trans ?_, b1⟩
    rw [List.map_cons] at a1
    have ev : mmVal B b g (2, nFdiv x y) = .long (Jvm.Free.JP.Math_floorDiv_JJ.val (Int64.ofInt x) (Int64.ofInt y)) := by
      show Value.long (Int64.ofInt (nFdiv x y)) = _
      rw [hfd, mm_o64]
      rfl
    rw [ev] at a1
    exact a1
end H4
theorem in_tTx {ow z : Nat} (h : (ow, z) ∈ tTx) : (ow, z) = (0, 8 * 275 + 4) ∨ (ow, z) = (1, 8 * 32) ∨ (ow, z) = (1, 8 * 34 + 1) ∨ (ow, z) = (1, 8 * 40 + 2) ∨ (ow, z) = (1, 8 * 44 + 4) ∨ (ow, z) = (2, 8 * 77 + 4) ∨ (ow, z) = (3, 8 * 61 + 3) ∨ (ow, z) = (3, 8 * 56 + 4) ∨ (ow, z) = (3, 8 * 79 + 5) ∨ (ow, z) = (3, 8 * 76 + 6) ∨ (ow, z) = (3, 8 * 85 + 7) := by
  unfold tTx at h
  simp only [List.mem_cons, List.not_mem_nil, or_false] at h
  exact h
theorem tTx0_rg : ∀ i : Fin 140, -2147483648 ≤ tTx0.getD i.val 0 ∧ tTx0.getD i.val 0 < 2147483648 := by decide +kernel
theorem jw_mm : (Cond.code Lib.Math.min.name Lib.Math.min.code 2 (some .int) ∈ tTW ∧ Cond.static Lib.Math.min.name ∈ tTW) ∧ (Cond.code Lib.Math.max.name Lib.Math.max.code 2 (some .int) ∈ tTW ∧ Cond.static Lib.Math.max.name ∈ tTW) ∧ (Cond.code Lib.MathLoose.max_long.x Lib.MathLoose.max_long.code 4 (some .long) ∈ tTW ∧ Cond.static Lib.MathLoose.max_long.x ∈ tTW) ∧ (Cond.code Lib.MathLoose.min_long.x Lib.MathLoose.min_long.code 4 (some .long) ∈ tTW ∧ Cond.static Lib.MathLoose.min_long.x ∈ tTW) := by
  have e1 : jB 528 = Lib.Math.min.code := by decide +kernel
  have e2 : jB 865 = Lib.Math.max.code := by decide +kernel
  have e3 : jB 855 = Lib.MathLoose.max_long.code := by decide +kernel
  have e4 : jB 852 = Lib.MathLoose.min_long.code := by decide +kernel
  rw [← e1, ← e2, ← e3, ← e4]
  exact ⟨⟨jB_in (by decide +kernel), tTW_in (i := 527) (by decide +kernel)⟩, ⟨jB_in (by decide +kernel), tTW_in (i := 864) (by decide +kernel)⟩, ⟨jB_in (by decide +kernel), tTW_in (i := 854) (by decide +kernel)⟩, ⟨jB_in (by decide +kernel), tTW_in (i := 851) (by decide +kernel)⟩⟩
theorem jw_ml : Cond.methodLink "TileHeel$TownText" 44 Lib.Math.min.name ∈ tTW ∧ Cond.methodLink "TileHeel$Town" 77 Lib.Math.min.name ∈ tTW ∧ Cond.methodLink "TileHeel$Laws" 76 Lib.MathLoose.min_long.x ∈ tTW ∧ Cond.methodLink "TileHeel$Laws" 79 Lib.MathLoose.max_long.x ∈ tTW ∧ Cond.methodLink "TileHeel$Laws" 56 Lib.Math.min.name ∈ tTW ∧ Cond.methodLink "TileHeel$Laws" 61 Lib.Math.max.name ∈ tTW ∧ Cond.methodLink "TileHeel" 275 Lib.Math.min.name ∈ tTW :=
  ⟨tTW_in (i := 526) (by decide +kernel), tTW_in (i := 671) (by decide +kernel), tTW_in (i := 850) (by decide +kernel), tTW_in (i := 853) (by decide +kernel), tTW_in (i := 862) (by decide +kernel), tTW_in (i := 863) (by decide +kernel), tTW_in (i := 937) (by decide +kernel)⟩
theorem jw_fc : Cond.code yFd Jvm.Free.JP.Math_floorDiv_JJ.yB 6 (some .long) ∈ tTW := by
  rw [← jw_fd.2.2.2]
  exact jB_in jw_fd.2.2.1
theorem i140 : Int32.ofInt (140 : Int) = nI 140 := by decide +kernel
theorem mmV1 {B b g : Nat} {x : Int} : mmVal B b g (1, x) = .int (Int32.ofInt x) := rfl
theorem eL140 {B b g : Nat} : mmVal B b g (1, (tTx0.length : Int)) = .int (nI 140) := by
  rw [tTx0_len, mmV1]
  exact congrArg Value.int i140
set_option maxHeartbeats 1000000 in
theorem tText {B b g : Nat} {aC : Nat → ClassId} {l : Launch} {D : va_G} {tys : List (ClassId × FieldType)} : mmTextOk tSh tTg B b g aC l D tCl tys tTb tNm tTW tTx0 := by
  intro p e R s m args below meth c nL n0 z0 Qm ow cc hx hb hown htw hml hR hKA hstr pc idx k
  have etx : tTb.2.2.2.2.2.2.2.2.2 = tTx := rfl
  rw [etx]
  refine ⟨fun hin hd hk => ?_, fun hin hd hk => ?_, fun hin hd hk => ?_, fun f hf hin hd hk => ?_⟩
  · have h := in_tTx hin
    simp only [Prod.mk.injEq] at h
    have ho : ow = 1 ∧ idx = 32 := by omega
    obtain ⟨rfl, rfl⟩ := ho
    intro ls st h H locs lsA hp hA
    obtain ⟨adV, ⟨h1, h2⟩, h3, h4⟩ := hstr
    have := hk ls _ h H locs lsA hp (hA.stk (mm_cons (v := (5, 0)) trivial hA.okS))
    exact va_ldcS hx hb hown h2 hd this
  · have h := in_tTx hin
    simp only [Prod.mk.injEq] at h
    have ho : ow = 1 ∧ idx = 34 := by omega
    obtain ⟨rfl, rfl⟩ := ho
    intro ls st h H locs lsA hp hA
    match st, hp, hA with
    | ⟨t, x⟩ :: r, hp, hA =>
      obtain ⟨ht, hp2⟩ := mmG_iff.mp hp
      simp only [Bool.and_eq_true] at ht
      have et : t = 5 := mm_beq ht.1
      have hcat := mm_ble ht.2
      subst et
      have hS := hA.wh.2.2.1
      refine t_after (v := some (.int (nI 140))) (rest := r.map (mmVal B b g)) (va_runV (As := []) (b := g) ⟨hx, hb, hml, hown, htw⟩ j_len ⟨t_cb (k := 0) htw (fun w h => h) jw_i.1 jw_m.1 jw_c.1 (by decide +kernel) ⟨by omega, by omega⟩, htw _ jw_v.1.1, htw _ jw_v.1.2⟩ ⟨tPc_blind, j_recv hstr hS, t_pre hS hstr⟩ rfl rfl hA.1.1 rfl (by show 2 * 0 + _ ≤ 8; rw [mm_cat]; omega) hd ⟨by have := hA.2.2.2.2.2; omega, by have := hA.2.2.2.2.2; omega⟩) ?_
      have key := hk ls _ h H locs lsA hp2 (hA.stk (mm_cons (v := (1, (tTx0.length : Int))) (by rw [tTx0_len]; exact ⟨by decide, by decide⟩) (mm_tail hA.okS)))
      rw [List.map_cons, eL140] at key
      exact key
  · have h := in_tTx hin
    simp only [Prod.mk.injEq] at h
    have ho : ow = 1 ∧ idx = 40 := by omega
    obtain ⟨rfl, rfl⟩ := ho
    intro ls st h H locs lsA hp hA
    match st, hp, hA with
    | ⟨t1, i⟩ :: ⟨t, x⟩ :: r, hp, hA =>
      obtain ⟨ht, hi, hp2⟩ := mmG_iff.mp hp
      simp only [Bool.and_eq_true] at ht
      have e1 : t1 = 1 := mm_beq ht.1
      have et : t = 5 := mm_beq ht.2.1
      have hcat := mm_ble ht.2.2
      subst e1; subst et
      simp only [] at hi
      rw [tTx0_len] at hi
      have hS := hA.wh.2.2.1
      have ei : Int32.ofInt i = nI i.toNat := mm_nN hi.1
      obtain ⟨o1, o2, o3⟩ := sByt_ok ⟨i.toNat, by omega⟩
      simp only [] at o1 o2 o3
      have hb3 : -2147483648 ≤ tTx0.getD i.toNat 0 ∧ tTx0.getD i.toNat 0 < 2147483648 := tTx0_rg ⟨i.toNat, by omega⟩
      refine t_after (v := some (.int ((sByt.getD 0 []).getD i.toNat 0))) (rest := r.map (mmVal B b g)) (va_runV (As := [.int (nI i.toNat)]) (b := g) ⟨hx, hb, hml, hown, htw⟩ (j_chr (by omega)) ⟨t_cb (k := 1) htw (fun w h => h) jw_i.1 jw_m.2.2.1 jw_c.2.2.1 (by decide +kernel) ⟨by omega, by omega⟩, htw _ jw_v.2.2.1.1, htw _ jw_v.2.2.1.2⟩ ⟨tPc_blind, j_recv hstr hS, t_pre hS hstr⟩ rfl rfl hA.1.1 (by rw [List.map_cons, List.map_cons, ← ei]; rfl) (by show 2 * 0 + _ ≤ 8; rw [mm_cat]; omega) hd ⟨by have := hA.2.2.2.2.2; omega, by have := hA.2.2.2.2.2; omega⟩) ?_
      rw [o2]
      have key := hk ls _ h H locs lsA hp2 (hA.stk (mm_cons (v := (1, tTx0.getD i.toNat 0)) hb3 (mm_tail (mm_tail hA.okS))))
      rw [List.map_cons, mmV1] at key
      exact key
  · have h := in_tTx hin
    simp only [Prod.mk.injEq] at h
    have hini := htw _ jw_fd.2.1
    obtain ⟨⟨c1, s1⟩, ⟨c2, s2⟩, ⟨c3, s3⟩, ⟨c4, s4⟩⟩ := jw_mm
    obtain ⟨m1, m2, m3, m4, m5, m6, m7⟩ := jw_ml
    have hRm : 1 ≤ R.frames ∧ 30 ≤ R.locals := ⟨by omega, by omega⟩
    rcases h with ⟨e1, e2⟩ | ⟨e1, e2⟩ | ⟨e1, e2⟩ | ⟨e1, e2⟩ | ⟨e1, e2⟩ | ⟨e1, e2⟩ | ⟨e1, e2⟩ | ⟨e1, e2⟩ | ⟨e1, e2⟩ | ⟨e1, e2⟩ | ⟨e1, e2⟩
    · have i1 : idx = 275 := by omega
      have i2 : f = 1 := by omega
      subst i1; subst i2; subst e1
      exact ks_mmax hx hb hml hown hini hRm hd (Or.inr (Or.inl ⟨rfl, htw _ m7, htw _ s1, htw _ c1⟩)) hk
    · omega
    · omega
    · omega
    · have i1 : idx = 44 := by omega
      have i2 : f = 1 := by omega
      subst i1; subst i2; subst e1
      exact ks_mmax hx hb hml hown hini hRm hd (Or.inr (Or.inl ⟨rfl, htw _ m1, htw _ s1, htw _ c1⟩)) hk
    · have i1 : idx = 77 := by omega
      have i2 : f = 1 := by omega
      subst i1; subst i2; subst e1
      exact ks_mmax hx hb hml hown hini hRm hd (Or.inr (Or.inl ⟨rfl, htw _ m2, htw _ s1, htw _ c1⟩)) hk
    · have i1 : idx = 61 := by omega
      have i2 : f = 0 := by omega
      subst i1; subst i2; subst e1
      exact ks_mmax hx hb hml hown hini hRm hd (Or.inl ⟨rfl, htw _ m6, htw _ s2, htw _ c2⟩) hk
    · have i1 : idx = 56 := by omega
      have i2 : f = 1 := by omega
      subst i1; subst i2; subst e1
      exact ks_mmax hx hb hml hown hini hRm hd (Or.inr (Or.inl ⟨rfl, htw _ m5, htw _ s1, htw _ c1⟩)) hk
    · have i1 : idx = 79 := by omega
      have i2 : f = 2 := by omega
      subst i1; subst i2; subst e1
      exact ks_mmax hx hb hml hown hini hRm hd (Or.inr (Or.inr (Or.inl ⟨rfl, htw _ m4, htw _ s3, htw _ c3⟩))) hk
    · have i1 : idx = 76 := by omega
      have i2 : f = 3 := by omega
      subst i1; subst i2; subst e1
      exact ks_mmax hx hb hml hown hini hRm hd (Or.inr (Or.inr (Or.inr ⟨rfl, htw _ m3, htw _ s4, htw _ c4⟩))) hk
    · have i1 : idx = 85 := by omega
      have i2 : f = 4 := by omega
      subst i1; subst i2; subst e1
      exact ks_fdiv hx hb hml hown (htw _ jw_fd.1.1) (htw _ jw_fd.1.2) hini (htw _ jw_fc) hRm hd hk
theorem jw_g : Cond.classLink "TileHeel$Town" 21 "[[I" ∈ tTW ∧ Cond.classLink "TileHeel$Roofs" 24 "[[I" ∈ tTW ∧ Cond.arrayClass .int ∈ tTW := ⟨tTW_in (i := 164) (by decide +kernel), tTW_in (i := 386) (by decide +kernel), tTW_in (i := 215) (by decide +kernel)⟩
theorem tGrid {B b g : Nat} {aC : Nat → ClassId} {l : Launch} {D : va_G} {tys : List (ClassId × FieldType)} (htys : ∀ kd, kd < 6 → tys[kd]? = some (aC kd, mmKt kd)) : mmGridOk tSh tTg B b g aC l D tCl tys tTb tNm tTW := by
  intro p e R s m args below meth c nL n0 z0 Qm ow cc hx hb hown htw hKA pc idx k hin hd hk
  have etx : tTb.2.2.2.2.2.2.2.2.1 = [(2, 21), (4, 24)] := rfl
  rw [etx] at hin
  simp only [List.mem_cons, List.not_mem_nil, or_false, Prod.mk.injEq] at hin
  rcases hin with ⟨rfl, rfl⟩ | ⟨rfl, rfl⟩
  · exact ks_mna hx hb rfl rfl hown hKA.1 (htys 0 (by decide)) (htys 4 (by decide)) (htw _ jw_g.1) hKA.2.2 (htw _ jw_g.2.2) hd hk
  · exact ks_mna hx hb rfl rfl hown hKA.1 (htys 0 (by decide)) (htys 4 (by decide)) (htw _ jw_g.2.1) hKA.2.2 (htw _ jw_g.2.2) hd hk
