/-! ===== mm: one op is one step of the machine ===== -/
/-- a point of a walk: locals, stack, heap -/
def mmIn (sh : Int → Nat × Nat) (tg : Nat → Nat → Nat) (B b g : Nat) (aC : Nat → ClassId) (R : Room) (H0 : Heap) (D : va_G) (cl : List vw_C) (nL n0 z0 : Nat) (ls st : List mmV) (h : mmH) (H : Heap) (locs : List Loc) (lsA : Array Slot) : Prop :=
  lv_has lsA nL (mmLv B b g ls) ∧ ls.length = nL ∧ (∀ v ∈ ls, mmOk (h 0 0) v) ∧ (∀ v ∈ st, mmOk (h 0 0) v) ∧ mmWH sh tg B b g aC D cl H0 h H locs ∧ (n0 : Int) ≤ h 0 0 ∧ (z0 : Int) ≤ h 0 1 ∧ (h 0 0).toNat - n0 ≤ R.cells ∧ (h 0 1).toNat - z0 ≤ R.slots
def mmKS (sh : Int → Nat × Nat) (tg : Nat → Nat → Nat) (B b g : Nat) (aC : Nat → ClassId) (p : Program) (l : Launch) (e : Env) (R : Room) (s : State) (m : MethodId) (args : Array Value) (below : List Frame) (meth : Method) (c : Code) (H0 : Heap) (D : va_G) (cl : List vw_C) (nL n0 z0 : Nat) (Qm : State → Prop) (pc : Nat) (k : mmKont) : Prop :=
  ∀ (ls st : List mmV) (h : mmH) (H : Heap) (locs : List Loc) (lsA : Array Slot), k ls st h → mmIn sh tg B b g aC R H0 D cl nL n0 z0 ls st h H locs lsA →
    W p l e R s m args below meth c H locs ((h 0 0).toNat - n0) ((h 0 1).toNat - z0) Qm (F0 m pc lsA (st.map (mmVal B b g)))
section MR
variable {sh : Int → Nat × Nat} {tg : Nat → Nat → Nat} {B b g : Nat} {aC : Nat → ClassId} {p : Program} {l : Launch} {e : Env} {R : Room} {s : State} {m : MethodId} {args : Array Value} {below : List Frame} {meth : Method} {c : Code} {H0 : Heap} {D : va_G} {cl : List vw_C} {nL n0 z0 : Nat} {Qm : State → Prop}
theorem mmIn.stk {ls st st' : List mmV} {h : mmH} {H : Heap} {locs : List Loc} {lsA : Array Slot} (hA : mmIn sh tg B b g aC R H0 D cl nL n0 z0 ls st h H locs lsA) (hs : ∀ v ∈ st', mmOk (h 0 0) v) : mmIn sh tg B b g aC R H0 D cl nL n0 z0 ls st' h H locs lsA := ⟨hA.1, hA.2.1, hA.2.2.1, hs, hA.2.2.2.2⟩
theorem mm_cons {n : Int} {v : mmV} {st : List mmV} (h1 : mmOk n v) (h2 : ∀ w ∈ st, mmOk n w) : ∀ w ∈ v :: st, mmOk n w := fun w hw => by
  rcases List.mem_cons.mp hw with q | q
  · rw [q]; exact h1
  · exact h2 w q
theorem mm_tail {n : Int} {v : mmV} {st : List mmV} (h : ∀ w ∈ v :: st, mmOk n w) : ∀ w ∈ st, mmOk n w := fun w hw => h w (List.mem_cons_of_mem _ hw)
theorem mm_head {n : Int} {v : mmV} {st : List mmV} (h : ∀ w ∈ v :: st, mmOk n w) : mmOk n v := h v List.mem_cons_self
theorem mm_ok1 {n : Int} (x : Int32) : mmOk n (1, x.toInt) := mm_r32 x
theorem mm_ok2 {n : Int} (x : Int64) : mmOk n (2, x.toInt) := mm_r64 x
variable {pc : Nat} {k : mmKont} {cc : ByteArray}
/-- an int that isn't changed by what stands on it -/
theorem ks_push1 (hx : p.tables.exec = Jvm.exec) (hb : c.code = cc) {i : Int} {x : Int} {len : Nat} (hr : -2147483648 ≤ x ∧ x < 2147483648)
    (hd : (decode cc pc = .ok (.iconst i, 1) ∧ len = 1 ∧ Int32.ofInt i = Int32.ofInt x) ∨ (decode cc pc = .ok (.bipush i, 2) ∧ len = 2 ∧ (Int8.ofInt i).toInt32 = Int32.ofInt x) ∨ (decode cc pc = .ok (.sipush i, 3) ∧ len = 3 ∧ (Int16.ofInt i).toInt32 = Int32.ofInt x))
    (hk : mmKS sh tg B b g aC p l e R s m args below meth c H0 D cl nL n0 z0 Qm (pc + len) k) : mmKS sh tg B b g aC p l e R s m args below meth c H0 D cl nL n0 z0 Qm pc (oPush 1 x k) := by
  intro ls st h H locs lsA hp hA
  have h2 := hk ls ((1, x) :: st) h H locs lsA hp (hA.stk (mm_cons hr hA.2.2.2.1))
  rcases hd with ⟨hd, rfl, hv⟩ | ⟨hd, rfl, hv⟩ | ⟨hd, rfl, hv⟩
  · exact lv_iconst hx hb hd hv h2
  · exact lv_bipush hx hb hd hv h2
  · exact lv_sipush hx hb hd hv h2
theorem ks_ldc (hx : p.tables.exec = Jvm.exec) (hb : c.code = cc) {own : String} {idx : Nat} {x : Int} (hr : -2147483648 ≤ x ∧ x < 2147483648) (hown : s.vm.findClass own = some m.cls) (hc : (Jvm.Cond.constant own idx (Int32.ofInt x)).before args s = true)
    (hd : decode cc pc = .ok (.ldc idx, 2)) (hk : mmKS sh tg B b g aC p l e R s m args below meth c H0 D cl nL n0 z0 Qm (pc + 2) k) : mmKS sh tg B b g aC p l e R s m args below meth c H0 D cl nL n0 z0 Qm pc (oPush 1 x k) := by
  intro ls st h H locs lsA hp hA
  exact lv_ldc hx hb hown hc hd (hk ls ((1, x) :: st) h H locs lsA hp (hA.stk (mm_cons hr hA.2.2.2.1)))
theorem ks_ldcw (hx : p.tables.exec = Jvm.exec) (hb : c.code = cc) {own : String} {idx : Nat} {x : Int} (hr : -2147483648 ≤ x ∧ x < 2147483648) (hown : s.vm.findClass own = some m.cls) (hc : (Jvm.Cond.constant own idx (Int32.ofInt x)).before args s = true)
    (hd : decode cc pc = .ok (.ldc_w idx, 3)) (hk : mmKS sh tg B b g aC p l e R s m args below meth c H0 D cl nL n0 z0 Qm (pc + 3) k) : mmKS sh tg B b g aC p l e R s m args below meth c H0 D cl nL n0 z0 Qm pc (oPush 1 x k) := by
  intro ls st h H locs lsA hp hA
  exact lv_ldcw hx hb hown hc hd (hk ls ((1, x) :: st) h H locs lsA hp (hA.stk (mm_cons hr hA.2.2.2.1)))
theorem ks_ldc2 (hx : p.tables.exec = Jvm.exec) (hb : c.code = cc) {own : String} {idx : Nat} {x : Int} (hr : -9223372036854775808 ≤ x ∧ x < 9223372036854775808) (hown : s.vm.findClass own = some m.cls) (hc : (Jvm.Cond.constantLong own idx (Int64.ofInt x)).before args s = true)
    (hd : decode cc pc = .ok (.ldc2_w idx, 3)) (hk : mmKS sh tg B b g aC p l e R s m args below meth c H0 D cl nL n0 z0 Qm (pc + 3) k) : mmKS sh tg B b g aC p l e R s m args below meth c H0 D cl nL n0 z0 Qm pc (oPush 2 x k) := by
  intro ls st h H locs lsA hp hA
  exact lv_ldc2 hx hb hown hc hd (hk ls ((2, x) :: st) h H locs lsA hp (hA.stk (mm_cons hr hA.2.2.2.1)))
theorem ks_lconst (hx : p.tables.exec = Jvm.exec) (hb : c.code = cc) {i : Fin 2} {x : Int} (hr : x = (i.val : Int)) (hd : decode cc pc = .ok (.lconst i, 1)) (hk : mmKS sh tg B b g aC p l e R s m args below meth c H0 D cl nL n0 z0 Qm (pc + 1) k) : mmKS sh tg B b g aC p l e R s m args below meth c H0 D cl nL n0 z0 Qm pc (oPush 2 x k) := by
  intro ls st h H locs lsA hp hA
  have hi := i.isLt
  have hr2 : -9223372036854775808 ≤ x ∧ x < 9223372036854775808 := by omega
  refine lv_lconst hx hb hd ?_ (hk ls ((2, x) :: st) h H locs lsA hp (hA.stk (mm_cons hr2 hA.2.2.2.1)))
  rw [hr]
  exact Int64.ofInt_eq_ofNat.symm
theorem ks_load (hx : p.tables.exec = Jvm.exec) (hb : c.code = cc) {i t len : Nat}
    (hd : (t = 1 ∧ ((∃ q : Fin 4, decode cc pc = .ok (.iload_n q, 1) ∧ q.val = i ∧ len = 1) ∨ (decode cc pc = .ok (.iload i, 2) ∧ len = 2))) ∨ (t = 2 ∧ ((∃ q : Fin 4, decode cc pc = .ok (.lload_n q, 1) ∧ q.val = i ∧ len = 1) ∨ (decode cc pc = .ok (.lload i, 2) ∧ len = 2))))
    (hk : mmKS sh tg B b g aC p l e R s m args below meth c H0 D cl nL n0 z0 Qm (pc + len) k) : mmKS sh tg B b g aC p l e R s m args below meth c H0 D cl nL n0 z0 Qm pc (oLoad i t k) := by
  intro ls st h H locs lsA hp hA
  obtain ⟨ht, hp⟩ := mmG_iff.mp hp
  simp only [Bool.and_eq_true] at ht
  have e1 := mm_beq ht.1
  have hg := mmLv_get B b g hA.1 e1 (mm_blt ht.2)
  have hok : mmOk (h 0 0) (t, (ls.getD i (0, 0)).2) := by
    have := mm_getD_ok (i := i) hA.2.2.1
    rw [← e1]
    exact this
  have h2 := hk ls ((t, (ls.getD i (0, 0)).2) :: st) h H locs lsA hp (hA.stk (mm_cons hok hA.2.2.2.1))
  rcases hd with ⟨rfl, hd⟩ | ⟨rfl, hd⟩
  · rcases hd with ⟨q, hd, rfl, rfl⟩ | ⟨hd, rfl⟩
    · exact lv_iload_n hx hb hd rfl hg h2
    · exact lv_iload hx hb hd hg h2
  · rcases hd with ⟨q, hd, rfl, rfl⟩ | ⟨hd, rfl⟩
    · exact lv_lload_n hx hb hd rfl hg h2
    · exact lv_lload hx hb hd hg h2
theorem ks_aload (hx : p.tables.exec = Jvm.exec) (hb : c.code = cc) {i t len : Nat} (ht3 : t = 3 ∨ t = 4 ∨ t = 5) (hd : (∃ q : Fin 4, decode cc pc = .ok (.aload_n q, 1) ∧ q.val = i ∧ len = 1) ∨ (decode cc pc = .ok (.aload i, 2) ∧ len = 2))
    (hk : mmKS sh tg B b g aC p l e R s m args below meth c H0 D cl nL n0 z0 Qm (pc + len) k) : mmKS sh tg B b g aC p l e R s m args below meth c H0 D cl nL n0 z0 Qm pc (oLoad i t k) := by
  intro ls st h H locs lsA hp hA
  obtain ⟨ht, hp⟩ := mmG_iff.mp hp
  simp only [Bool.and_eq_true] at ht
  have e1 := mm_beq ht.1
  have hg := mmLv_get B b g hA.1 e1 (mm_blt ht.2)
  have hok : mmOk (h 0 0) (t, (ls.getD i (0, 0)).2) := by
    have := mm_getD_ok (i := i) hA.2.2.1
    rw [← e1]
    exact this
  have h2 := hk ls ((t, (ls.getD i (0, 0)).2) :: st) h H locs lsA hp (hA.stk (mm_cons hok hA.2.2.2.1))
  have hv : mmVal B b g (t, (ls.getD i (0, 0)).2) = .null ∨ ∃ a, mmVal B b g (t, (ls.getD i (0, 0)).2) = .ref a := by
    rcases ht3 with rfl | rfl | rfl
    · by_cases q : (ls.getD i (0, 0)).2 = 0
      · left; simp only [mmVal, q, if_true]
      · right; exact ⟨B + (ls.getD i (0, 0)).2.toNat, by simp only [mmVal, q, if_false]⟩
    · exact Or.inr ⟨_, rfl⟩
    · exact Or.inr ⟨_, rfl⟩
  rw [List.map_cons] at h2
  rcases hv with hv | ⟨a, hv⟩
  · rw [hv] at hg h2
    rcases hd with ⟨q, hd, rfl, rfl⟩ | ⟨hd, rfl⟩
    · exact lv_aload_nN hx hb hd rfl hg h2
    · exact lv_aloadN hx hb hd hg h2
  · rw [hv] at hg h2
    rcases hd with ⟨q, hd, rfl, rfl⟩ | ⟨hd, rfl⟩
    · exact lv_aload_n hx hb hd rfl hg h2
    · exact lv_aload hx hb hd hg h2
theorem mmIn.sto {ls st st' : List mmV} {h : mmH} {H : Heap} {locs : List Loc} {lsA lsB : Array Slot} {i t : Nat} {x : Int} (hA : mmIn sh tg B b g aC R H0 D cl nL n0 z0 ls st h H locs lsA) (hl : lv_has lsB nL (mmLv B b g (mmSt ls i t x))) (hv : mmOk (h 0 0) (t, x)) (hs : ∀ v ∈ st', mmOk (h 0 0) v) : mmIn sh tg B b g aC R H0 D cl nL n0 z0 (mmSt ls i t x) st' h H locs lsB :=
  ⟨hl, by rw [mmSt_len]; exact hA.2.1, mmSt_ok hA.2.2.1 hv, hs, hA.2.2.2.2⟩
theorem mm_fits1 {ls : List mmV} {i t : Nat} (ht : t ≠ 2) (h : mmFits ls i t = true) : i < ls.length := by
  unfold mmFits at h
  cases e : Nat.beq t 2 with
  | false => rw [e] at h; exact mm_blt h
  | true => exact absurd (mm_beq e) ht
theorem ks_istore (hx : p.tables.exec = Jvm.exec) (hb : c.code = cc) {i len : Nat} (hd : (∃ q : Fin 4, decode cc pc = .ok (.istore_n q, 1) ∧ q.val = i ∧ len = 1) ∨ (decode cc pc = .ok (.istore i, 2) ∧ len = 2))
    (hk : mmKS sh tg B b g aC p l e R s m args below meth c H0 D cl nL n0 z0 Qm (pc + len) k) : mmKS sh tg B b g aC p l e R s m args below meth c H0 D cl nL n0 z0 Qm pc (oStore i 1 k) := by
  intro ls st h H locs lsA hp hA
  match st, hp, hA with
  | ⟨t, x⟩ :: r, hp, hA =>
    obtain ⟨ht, hp⟩ := mmG_iff.mp hp
    simp only [Bool.and_eq_true] at ht
    have e1 : t = 1 := mm_beq ht.1
    subst e1
    have hn := mm_fits1 (t := 1) (by omega) ht.2
    have hn2 : i < nL := by rw [← hA.2.1]; exact hn
    have hs := hA.2.2.2.1
    rcases hd with ⟨q, hd, rfl, rfl⟩ | ⟨hd, rfl⟩
    · exact lv_istore_n hx hb hd rfl hA.1 hn2 rfl fun ls' h' => hk _ r h H locs ls' hp (hA.sto (mmLv_st1 B b g (by omega) ht.2 h') (mm_head hs) (mm_tail hs))
    · exact lv_istore hx hb hd hA.1 hn2 rfl fun ls' h' => hk _ r h H locs ls' hp (hA.sto (mmLv_st1 B b g (by omega) ht.2 h') (mm_head hs) (mm_tail hs))
theorem ks_lstore (hx : p.tables.exec = Jvm.exec) (hb : c.code = cc) {i len : Nat} (hd : (∃ q : Fin 4, decode cc pc = .ok (.lstore_n q, 1) ∧ q.val = i ∧ len = 1) ∨ (decode cc pc = .ok (.lstore i, 2) ∧ len = 2))
    (hk : mmKS sh tg B b g aC p l e R s m args below meth c H0 D cl nL n0 z0 Qm (pc + len) k) : mmKS sh tg B b g aC p l e R s m args below meth c H0 D cl nL n0 z0 Qm pc (oStore i 2 k) := by
  intro ls st h H locs lsA hp hA
  match st, hp, hA with
  | ⟨t, x⟩ :: r, hp, hA =>
    obtain ⟨ht, hp⟩ := mmG_iff.mp hp
    simp only [Bool.and_eq_true] at ht
    have e1 : t = 2 := mm_beq ht.1
    subst e1
    have hn : i + 1 < ls.length := mm_blt ht.2
    have hn2 : i + 1 < nL := by rw [← hA.2.1]; exact hn
    have hs := hA.2.2.2.1
    rcases hd with ⟨q, hd, rfl, rfl⟩ | ⟨hd, rfl⟩
    · exact lv_lstore_n hx hb hd rfl hA.1 hn2 rfl fun ls' h' => hk _ r h H locs ls' hp (hA.sto (mmLv_st2 B b g ht.2 h') (mm_head hs) (mm_tail hs))
    · exact lv_lstore hx hb hd hA.1 hn2 rfl fun ls' h' => hk _ r h H locs ls' hp (hA.sto (mmLv_st2 B b g ht.2 h') (mm_head hs) (mm_tail hs))
theorem ks_astore (hx : p.tables.exec = Jvm.exec) (hb : c.code = cc) {i len : Nat} (hd : (∃ q : Fin 4, decode cc pc = .ok (.astore_n q, 1) ∧ q.val = i ∧ len = 1) ∨ (decode cc pc = .ok (.astore i, 2) ∧ len = 2))
    (hk : mmKS sh tg B b g aC p l e R s m args below meth c H0 D cl nL n0 z0 Qm (pc + len) k) : mmKS sh tg B b g aC p l e R s m args below meth c H0 D cl nL n0 z0 Qm pc (oStore i 3 k) := by
  intro ls st h H locs lsA hp hA
  match st, hp, hA with
  | ⟨t, x⟩ :: r, hp, hA =>
    obtain ⟨ht, hp⟩ := mmG_iff.mp hp
    simp only [Bool.and_eq_true] at ht
    have e1 : t = 3 := mm_beq ht.1
    subst e1
    have hn := mm_fits1 (t := 3) (by omega) ht.2
    have hn2 : i < nL := by rw [← hA.2.1]; exact hn
    have hs := hA.2.2.2.1
    have key : ∀ ls' : Array Slot, lv_has ls' nL ((i, mmVal B b g (3, x)) :: (mmLv B b g ls).filter (fun q => !(q.1 == i) && !(q.1 + 1 == i && q.2.category == 2))) → W p l e R s m args below meth c H locs ((h 0 0).toNat - n0) ((h 0 1).toNat - z0) Qm (F0 m (pc + len) ls' (r.map (mmVal B b g))) :=
      fun ls' h' => hk _ r h H locs ls' hp (hA.sto (mmLv_st1 B b g (by omega) ht.2 h') (mm_head hs) (mm_tail hs))
    rw [List.map_cons]
    by_cases q0 : x = 0
    · have hv : mmVal B b g (3, x) = .null := by simp only [mmVal, q0, if_true]
      rw [hv] at key ⊢
      rcases hd with ⟨q, hd, rfl, rfl⟩ | ⟨hd, rfl⟩
      · exact lv_astore_nN hx hb hd rfl hA.1 hn2 rfl key
      · exact lv_astoreN hx hb hd hA.1 hn2 rfl key
    · have hv : mmVal B b g (3, x) = .ref (B + x.toNat) := by simp only [mmVal, q0, if_false]
      rw [hv] at key ⊢
      rcases hd with ⟨q, hd, rfl, rfl⟩ | ⟨hd, rfl⟩
      · exact lv_astore_n hx hb hd rfl hA.1 hn2 rfl key
      · exact lv_astore hx hb hd hA.1 hn2 rfl key
theorem ks_iinc (hx : p.tables.exec = Jvm.exec) (hb : c.code = cc) {i : Nat} {x : Int} (hd : decode cc pc = .ok (.iinc i x, 3)) (hk : mmKS sh tg B b g aC p l e R s m args below meth c H0 D cl nL n0 z0 Qm (pc + 3) k) : mmKS sh tg B b g aC p l e R s m args below meth c H0 D cl nL n0 z0 Qm pc (oIinc i x k) := by
  intro ls st h H locs lsA hp hA
  obtain ⟨ht, hp⟩ := mmG_iff.mp hp
  simp only [Bool.and_eq_true] at ht
  have e1 := mm_beq ht.1
  have hn := mm_fits1 (t := 1) (by omega) ht.2
  have hn2 : i < nL := by rw [← hA.2.1]; exact hn
  have hm : (i, mmVal B b g (1, (ls.getD i (0, 0)).2)) ∈ mmLv B b g ls := by
    refine (mmLv_in B b g).mpr ⟨hn, by omega, ?_⟩
    rw [← e1]
  obtain ⟨kq, hkq⟩ := List.getElem?_of_mem hm
  exact lv_iinc hx hb hd hA.1 hkq rfl hn2 rfl fun ls' h' => hk _ st h H locs ls' hp (hA.sto (mmLv_st1 B b g (by omega) ht.2 (by
    have e2 : mmVal B b g (1, mAdd (ls.getD i (0, 0)).2 x) = .int (Int32.ofInt (ls.getD i (0, 0)).2 + Int32.ofInt x) := by
      show Value.int (Int32.ofInt (mAdd _ _)) = _
      rw [mAdd_def]
      rw [mm_o32]
    rw [e2]
    exact h')) (by rw [mAdd_def]; exact mm_ok1 _) hA.2.2.2.1)
/-- two ints give one -/
theorem ks_i2 {f : Nat} {len : Nat} (hs : ∀ (x y : Int) (H : Heap) (locs : List Loc) (n z : Nat) (lsA : Array Slot) (r : List Value), W p l e R s m args below meth c H locs n z Qm (F0 m (pc + len) lsA (.int (Int32.ofInt (mI2 f x y)) :: r)) → W p l e R s m args below meth c H locs n z Qm (F0 m pc lsA (.int (Int32.ofInt y) :: .int (Int32.ofInt x) :: r)))
    (hr : ∀ x y : Int, -2147483648 ≤ mI2 f x y ∧ mI2 f x y < 2147483648) (hk : mmKS sh tg B b g aC p l e R s m args below meth c H0 D cl nL n0 z0 Qm (pc + len) k) : mmKS sh tg B b g aC p l e R s m args below meth c H0 D cl nL n0 z0 Qm pc (oI2 f k) := by
  intro ls st h H locs lsA hp hA
  match st, hp, hA with
  | ⟨t1, y⟩ :: ⟨t2, x⟩ :: r, hp, hA =>
    obtain ⟨ht, hp⟩ := mmG_iff.mp hp
    simp only [Bool.and_eq_true] at ht
    have e1 : t1 = 1 := mm_beq ht.1
    have e2 : t2 = 1 := mm_beq ht.2
    subst e1; subst e2
    exact hs x y H locs _ _ lsA _ (hk ls _ h H locs lsA hp (hA.stk (mm_cons (hr x y) (mm_tail (mm_tail hA.2.2.2.1)))))
theorem ks_l2 {f : Nat} {len : Nat} (hs : ∀ (x y : Int) (H : Heap) (locs : List Loc) (n z : Nat) (lsA : Array Slot) (r : List Value), W p l e R s m args below meth c H locs n z Qm (F0 m (pc + len) lsA (.long (Int64.ofInt (nI2 f x y)) :: r)) → W p l e R s m args below meth c H locs n z Qm (F0 m pc lsA (.long (Int64.ofInt y) :: .long (Int64.ofInt x) :: r)))
    (hr : ∀ x y : Int, -9223372036854775808 ≤ nI2 f x y ∧ nI2 f x y < 9223372036854775808) (hk : mmKS sh tg B b g aC p l e R s m args below meth c H0 D cl nL n0 z0 Qm (pc + len) k) : mmKS sh tg B b g aC p l e R s m args below meth c H0 D cl nL n0 z0 Qm pc (oL2 f k) := by
  intro ls st h H locs lsA hp hA
  match st, hp, hA with
  | ⟨t1, y⟩ :: ⟨t2, x⟩ :: r, hp, hA =>
    obtain ⟨ht, hp⟩ := mmG_iff.mp hp
    simp only [Bool.and_eq_true] at ht
    have e1 : t1 = 2 := mm_beq ht.1
    have e2 : t2 = 2 := mm_beq ht.2
    subst e1; subst e2
    exact hs x y H locs _ _ lsA _ (hk ls _ h H locs lsA hp (hA.stk (mm_cons (hr x y) (mm_tail (mm_tail hA.2.2.2.1)))))
theorem ks_int (hx : p.tables.exec = Jvm.exec) (hb : c.code = cc) {f : Nat} (hd : (f = 0 ∧ decode cc pc = .ok (.iadd, 1)) ∨ (f = 1 ∧ decode cc pc = .ok (.isub, 1)) ∨ (f = 2 ∧ decode cc pc = .ok (.imul, 1)) ∨ (f = 3 ∧ decode cc pc = .ok (.iand, 1)) ∨ (f = 4 ∧ decode cc pc = .ok (.ior, 1)) ∨ (f = 5 ∧ decode cc pc = .ok (.ixor, 1)) ∨ (f = 6 ∧ decode cc pc = .ok (.ishl, 1)) ∨ (f = 7 ∧ decode cc pc = .ok (.ishr, 1)) ∨ (f = 8 ∧ decode cc pc = .ok (.iushr, 1)))
    (hk : mmKS sh tg B b g aC p l e R s m args below meth c H0 D cl nL n0 z0 Qm (pc + 1) k) : mmKS sh tg B b g aC p l e R s m args below meth c H0 D cl nL n0 z0 Qm pc (oI2 f k) := by
  rcases hd with ⟨rfl, hd⟩ | ⟨rfl, hd⟩ | ⟨rfl, hd⟩ | ⟨rfl, hd⟩ | ⟨rfl, hd⟩ | ⟨rfl, hd⟩ | ⟨rfl, hd⟩ | ⟨rfl, hd⟩ | ⟨rfl, hd⟩
  · exact ks_i2 (fun x y H locs n z lsA r h => lv_iadd hx hb hd (by simp only [mI2, mAdd_def, mm_o32] at h; exact h)) (fun x y => by simp only [mI2, mAdd_def]; exact mm_r32 _) hk
  · exact ks_i2 (fun x y H locs n z lsA r h => lv_isub hx hb hd (by simp only [mI2, mSub_def, mm_o32] at h; exact h)) (fun x y => by simp only [mI2, mSub_def]; exact mm_r32 _) hk
  · exact ks_i2 (fun x y H locs n z lsA r h => lv_imul hx hb hd (by simp only [mI2, mMul_def, mm_o32] at h; exact h)) (fun x y => by simp only [mI2, mMul_def]; exact mm_r32 _) hk
  · exact ks_i2 (fun x y H locs n z lsA r h => lv_iand hx hb hd (by simp only [mI2, mAnd_def, mm_o32] at h; exact h)) (fun x y => by simp only [mI2, mAnd_def]; exact mm_r32 _) hk
  · exact ks_i2 (fun x y H locs n z lsA r h => lv_ior hx hb hd (by simp only [mI2, mOr_def, mm_o32] at h; exact h)) (fun x y => by simp only [mI2, mOr_def]; exact mm_r32 _) hk
  · exact ks_i2 (fun x y H locs n z lsA r h => lv_ixor hx hb hd (by simp only [mI2, mXor_def, mm_o32] at h; exact h)) (fun x y => by simp only [mI2, mXor_def]; exact mm_r32 _) hk
  · exact ks_i2 (fun x y H locs n z lsA r h => lv_ishl hx hb hd (by simp only [mI2, mShl_def, mm_o32] at h; exact h)) (fun x y => by simp only [mI2, mShl_def]; exact mm_r32 _) hk
  · exact ks_i2 (fun x y H locs n z lsA r h => lv_ishr hx hb hd (by simp only [mI2, mShr_def, mm_o32] at h; exact h)) (fun x y => by simp only [mI2, mShr_def]; exact mm_r32 _) hk
  · exact ks_i2 (fun x y H locs n z lsA r h => lv_iushr hx hb hd rfl (by simp only [mI2, mUshr_def, mm_o32] at h; exact h)) (fun x y => by simp only [mI2, mUshr_def]; exact mm_r32 _) hk
theorem ks_long (hx : p.tables.exec = Jvm.exec) (hb : c.code = cc) {f : Nat} (hd : (f = 0 ∧ decode cc pc = .ok (.ladd, 1)) ∨ (f = 1 ∧ decode cc pc = .ok (.lsub, 1)) ∨ (f = 2 ∧ decode cc pc = .ok (.lmul, 1)) ∨ (f = 3 ∧ decode cc pc = .ok (.land, 1)) ∨ (f = 4 ∧ decode cc pc = .ok (.lor, 1)) ∨ (f = 5 ∧ decode cc pc = .ok (.lxor, 1)))
    (hk : mmKS sh tg B b g aC p l e R s m args below meth c H0 D cl nL n0 z0 Qm (pc + 1) k) : mmKS sh tg B b g aC p l e R s m args below meth c H0 D cl nL n0 z0 Qm pc (oL2 f k) := by
  rcases hd with ⟨rfl, hd⟩ | ⟨rfl, hd⟩ | ⟨rfl, hd⟩ | ⟨rfl, hd⟩ | ⟨rfl, hd⟩ | ⟨rfl, hd⟩
  · exact ks_l2 (fun x y H locs n z lsA r h => lv_ladd hx hb hd (by simp only [nI2, nAdd_def, mm_o64] at h; exact h)) (fun x y => by simp only [nI2, nAdd_def]; exact mm_r64 _) hk
  · exact ks_l2 (fun x y H locs n z lsA r h => lv_lsub hx hb hd (by simp only [nI2, nSub_def, mm_o64] at h; exact h)) (fun x y => by simp only [nI2, nSub_def]; exact mm_r64 _) hk
  · exact ks_l2 (fun x y H locs n z lsA r h => lv_lmul hx hb hd (by simp only [nI2, nMul_def, mm_o64] at h; exact h)) (fun x y => by simp only [nI2, nMul_def]; exact mm_r64 _) hk
  · exact ks_l2 (fun x y H locs n z lsA r h => lv_land hx hb hd (by simp only [nI2, nAnd_def, mm_o64] at h; exact h)) (fun x y => by simp only [nI2, nAnd_def]; exact mm_r64 _) hk
  · exact ks_l2 (fun x y H locs n z lsA r h => lv_lor hx hb hd (by simp only [nI2, nOr_def, mm_o64] at h; exact h)) (fun x y => by simp only [nI2, nOr_def]; exact mm_r64 _) hk
  · exact ks_l2 (fun x y H locs n z lsA r h => lv_lxor hx hb hd (by simp only [nI2, nXor_def, mm_o64] at h; exact h)) (fun x y => by simp only [nI2, nXor_def]; exact mm_r64 _) hk
theorem mm_n032 {y : Int} (h1 : -2147483648 ≤ y) (h2 : y < 2147483648) (h : y ≠ 0) : ¬ Int32.ofInt y = 0 := fun q => h (by
  have := congrArg Int32.toInt q
  rw [mm_t32 h1 h2] at this
  exact this)
theorem mm_n064 {y : Int} (h1 : -9223372036854775808 ≤ y) (h2 : y < 9223372036854775808) (h : y ≠ 0) : ¬ Int64.ofInt y = 0 := fun q => h (by
  have := congrArg Int64.toInt q
  rw [mm_t64 h1 h2] at this
  exact this)
theorem ks_div (hx : p.tables.exec = Jvm.exec) (hb : c.code = cc) {f : Nat} (hd : (f = 0 ∧ decode cc pc = .ok (.idiv, 1)) ∨ (f = 1 ∧ decode cc pc = .ok (.irem, 1)) ∨ (f = 2 ∧ decode cc pc = .ok (.ldiv, 1)) ∨ (f = 3 ∧ decode cc pc = .ok (.lrem, 1)))
    (hk : mmKS sh tg B b g aC p l e R s m args below meth c H0 D cl nL n0 z0 Qm (pc + 1) k) : mmKS sh tg B b g aC p l e R s m args below meth c H0 D cl nL n0 z0 Qm pc (oDv f k) := by
  intro ls st h H locs lsA hp hA
  match st, hp, hA with
  | ⟨t1, y⟩ :: ⟨t2, x⟩ :: r, hp, hA =>
    have hs := hA.2.2.2.1
    rcases hd with ⟨rfl, hd⟩ | ⟨rfl, hd⟩ | ⟨rfl, hd⟩ | ⟨rfl, hd⟩
    · obtain ⟨ht, hp⟩ := mmG_iff.mp hp
      obtain ⟨h0, hp⟩ := mmD_iff.mp hp
      simp only [Bool.and_eq_true] at ht
      have e1 : t1 = 1 := mm_beq ht.1
      have e2 : t2 = 1 := mm_beq ht.2
      subst e1; subst e2
      have hy := mm_head hs
      have h2 := hk ls _ h H locs lsA hp (hA.stk (mm_cons (by rw [mDiv_def]; exact mm_ok1 _) (mm_tail (mm_tail hs))))
      rw [List.map_cons] at h2
      exact lv_idiv hx hb hd (mm_n032 hy.1 hy.2 h0) (by simp only [mmVal, mDiv_def, mm_o32] at h2; exact h2)
    · obtain ⟨ht, hp⟩ := mmG_iff.mp hp
      obtain ⟨h0, hp⟩ := mmD_iff.mp hp
      simp only [Bool.and_eq_true] at ht
      have e1 : t1 = 1 := mm_beq ht.1
      have e2 : t2 = 1 := mm_beq ht.2
      subst e1; subst e2
      have hy := mm_head hs
      have h2 := hk ls _ h H locs lsA hp (hA.stk (mm_cons (by rw [mRem_def]; exact mm_ok1 _) (mm_tail (mm_tail hs))))
      rw [List.map_cons] at h2
      exact lv_irem hx hb hd (mm_n032 hy.1 hy.2 h0) (by simp only [mmVal, mRem_def, mm_o32] at h2; exact h2)
    · obtain ⟨ht, hp⟩ := mmG_iff.mp hp
      obtain ⟨h0, hp⟩ := mmD_iff.mp hp
      simp only [Bool.and_eq_true] at ht
      have e1 : t1 = 2 := mm_beq ht.1
      have e2 : t2 = 2 := mm_beq ht.2
      subst e1; subst e2
      have hy := mm_head hs
      have h2 := hk ls _ h H locs lsA hp (hA.stk (mm_cons (by rw [nDiv_def]; exact mm_ok2 _) (mm_tail (mm_tail hs))))
      rw [List.map_cons] at h2
      exact lv_ldiv hx hb hd (mm_n064 hy.1 hy.2 h0) (by simp only [mmVal, nDiv_def, mm_o64] at h2; exact h2)
    · obtain ⟨ht, hp⟩ := mmG_iff.mp hp
      obtain ⟨h0, hp⟩ := mmD_iff.mp hp
      simp only [Bool.and_eq_true] at ht
      have e1 : t1 = 2 := mm_beq ht.1
      have e2 : t2 = 2 := mm_beq ht.2
      subst e1; subst e2
      have hy := mm_head hs
      have h2 := hk ls _ h H locs lsA hp (hA.stk (mm_cons (by rw [nRem_def]; exact mm_ok2 _) (mm_tail (mm_tail hs))))
      rw [List.map_cons] at h2
      exact lv_lrem hx hb hd (mm_n064 hy.1 hy.2 h0) (by simp only [mmVal, nRem_def, mm_o64] at h2; exact h2)
theorem ks_cv (hx : p.tables.exec = Jvm.exec) (hb : c.code = cc) {f : Nat} (hd : (f = 0 ∧ decode cc pc = .ok (.i2l, 1)) ∨ (f = 1 ∧ decode cc pc = .ok (.l2i, 1))) (hk : mmKS sh tg B b g aC p l e R s m args below meth c H0 D cl nL n0 z0 Qm (pc + 1) k) : mmKS sh tg B b g aC p l e R s m args below meth c H0 D cl nL n0 z0 Qm pc (oCv f k) := by
  intro ls st h H locs lsA hp hA
  match st, hp, hA with
  | ⟨t1, x⟩ :: r, hp, hA =>
    have hs := hA.2.2.2.1
    rcases hd with ⟨rfl, hd⟩ | ⟨rfl, hd⟩
    · obtain ⟨ht, hp⟩ := mmG_iff.mp hp
      have e1 : t1 = 1 := mm_beq ht
      subst e1
      have hy := mm_head hs
      have h1 := hy.1
      have h3 := hy.2
      simp only [] at h1 h3
      have h2 := hk ls _ h H locs lsA hp (hA.stk (mm_cons (show mmOk (h 0 0) (2, x) from ⟨by show _ ≤ x; omega, by show x < _; omega⟩) (mm_tail hs)))
      refine lv_i2l hx hb hd ?_ h2
      apply Int64.toInt_inj.mp
      rw [Int32.toInt_toInt64, mm_t32 h1 h3]
      exact (mm_t64 (by omega) (by omega)).symm
    · obtain ⟨ht, hp⟩ := mmG_iff.mp hp
      have e1 : t1 = 2 := mm_beq ht
      subst e1
      have h2 := hk ls _ h H locs lsA hp (hA.stk (mm_cons (by rw [mL2i_def]; exact mm_ok1 _) (mm_tail hs)))
      refine lv_l2i hx hb hd ?_ h2
      simp only [mL2i_def, mm_o32]
theorem ks_lcmp (hx : p.tables.exec = Jvm.exec) (hb : c.code = cc) (hd : decode cc pc = .ok (.lcmp, 1)) (hk : mmKS sh tg B b g aC p l e R s m args below meth c H0 D cl nL n0 z0 Qm (pc + 1) k) : mmKS sh tg B b g aC p l e R s m args below meth c H0 D cl nL n0 z0 Qm pc (oLcmp k) := by
  intro ls st h H locs lsA hp hA
  match st, hp, hA with
  | ⟨t1, y⟩ :: ⟨t2, x⟩ :: r, hp, hA =>
    have hs := hA.2.2.2.1
    obtain ⟨ht, hp⟩ := mmG_iff.mp hp
    simp only [Bool.and_eq_true] at ht
    have e1 : t1 = 2 := mm_beq ht.1
    have e2 : t2 = 2 := mm_beq ht.2
    subst e1; subst e2
    have hy := mm_head hs
    have hz := mm_head (mm_tail hs)
    have hr : -2147483648 ≤ mLcmp x y ∧ mLcmp x y < 2147483648 := by
      unfold mLcmp
      split
      · omega
      · split <;> omega
    have h2 := hk ls _ h H locs lsA hp (hA.stk (mm_cons (show mmOk (h 0 0) (1, mLcmp x y) from hr) (mm_tail (mm_tail hs))))
    refine W.lcmp hx hb hd ?_
    have e3 : lg_cmp (Int64.ofInt x) (Int64.ofInt y) = Int32.ofInt (mLcmp x y) := by
      unfold lg_cmp mLcmp
      have c1 : (Int64.ofInt y < Int64.ofInt x) ↔ y < x := by rw [Int64.lt_iff_toInt_lt, mm_t64 hy.1 hy.2, mm_t64 hz.1 hz.2]
      have c2 : (Int64.ofInt x = Int64.ofInt y) ↔ x = y := by rw [← Int64.toInt_inj, mm_t64 hy.1 hy.2, mm_t64 hz.1 hz.2]
      simp only [c1, c2]
      split
      · rfl
      · split <;> rfl
    rw [e3]
    exact h2
theorem mm_nc2 {t : Nat} {x : Int} (h : (!Nat.beq t 2) = true) : (mmVal B b g (t, x)).category = 1 := by
  rw [mmVal_cat]
  by_cases e : t = 2
  · subst e; cases h
  · simp only [e, if_false]
theorem ks_stk (hx : p.tables.exec = Jvm.exec) (hb : c.code = cc) {f : Nat} (hd : (f = 0 ∧ decode cc pc = .ok (.dup, 1)) ∨ (f = 1 ∧ decode cc pc = .ok (.dup2, 1)) ∨ (f = 2 ∧ decode cc pc = .ok (.pop, 1))) (hk : mmKS sh tg B b g aC p l e R s m args below meth c H0 D cl nL n0 z0 Qm (pc + 1) k) : mmKS sh tg B b g aC p l e R s m args below meth c H0 D cl nL n0 z0 Qm pc (oStk f k) := by
  intro ls st h H locs lsA hp hA
  have hs := hA.2.2.2.1
  rcases hd with ⟨rfl, hd⟩ | ⟨rfl, hd⟩ | ⟨rfl, hd⟩
  · match st, hp, hA, hs with
    | ⟨t1, y⟩ :: r, hp, hA, hs =>
      obtain ⟨ht, hp⟩ := mmG_iff.mp hp
      exact lv_dup hx hb hd (mm_nc2 ht) (hk ls _ h H locs lsA hp (hA.stk (mm_cons (mm_head hs) hs)))
  · match st, hp, hA, hs with
    | ⟨t1, y⟩ :: ⟨t2, x⟩ :: r, hp, hA, hs =>
      obtain ⟨ht, hp⟩ := mmG_iff.mp hp
      simp only [Bool.and_eq_true] at ht
      exact lv_dup2_11 hx hb hd (mm_nc2 ht.1) (mm_nc2 ht.2) (hk ls _ h H locs lsA hp (hA.stk (mm_cons (mm_head hs) (mm_cons (mm_head (mm_tail hs)) hs))))
  · match st, hp, hA, hs with
    | ⟨t1, y⟩ :: r, hp, hA, hs =>
      obtain ⟨ht, hp⟩ := mmG_iff.mp hp
      exact lv_pop hx hb hd (mm_nc2 ht) (hk ls _ h H locs lsA hp (hA.stk (mm_tail hs)))
end MR
