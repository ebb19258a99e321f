/-! ===== mm: the text constant's methods ===== -/
def jB (i : Nat) : ByteArray := match lw_tbl[i]? with
  | some (.code _ b _ _) => b
  | _ => ⟨#[]⟩
def jIs (i : Nat) (y : MethodName) (n : Nat) (r : Option FieldType) : Bool := match lw_tbl[i]? with
  | some (.code y' _ n' r') => decide (y' = y ∧ n' = n ∧ r' = r)
  | _ => false
theorem jB_in {i n : Nat} {y : MethodName} {r : Option FieldType} (h : jIs i y n r = true) : Cond.code y (jB i) n r ∈ tTW := by
  unfold jIs at h
  unfold jB
  cases q : lw_tbl[i]? with
  | none => rw [q] at h; cases h
  | some w =>
    rw [q] at h
    cases w <;> first
      | cases h
      | (obtain ⟨h1, h2, h3⟩ := of_decide_eq_true h
         subst h1; subst h2; subst h3
         exact tTW_in ⟨q, rfl⟩)
def yLen : MethodName := ⟨"java/lang/String", "length", "()I"⟩
def yCod : MethodName := ⟨"java/lang/String", "coder", "()B"⟩
def yChr : MethodName := ⟨"java/lang/String", "charAt", "(I)C"⟩
def yLat : MethodName := ⟨"java/lang/String", "isLatin1", "()Z"⟩
def ySlc : MethodName := ⟨"java/lang/StringLatin1", "charAt", "([BI)C"⟩
def yChk : MethodName := ⟨"java/lang/String", "checkIndex", "(II)V"⟩
def yPre : MethodName := ⟨"jdk/internal/util/Preconditions", "checkIndex", "(IILjava/util/function/BiFunction;)I"⟩
theorem jw_c : Cond.code yLen (jB 302) 1 (some .int) ∈ tTW ∧ Cond.code yCod (jB 306) 1 (some .byte) ∈ tTW ∧ Cond.code yChr (jB 312) 2 (some .char) ∈ tTW ∧ Cond.code yLat (jB 316) 1 (some .boolean) ∈ tTW ∧ Cond.code ySlc (jB 319) 2 (some .char) ∈ tTW ∧ Cond.code yChk (jB 322) 2 none ∈ tTW ∧ Cond.code yPre (jB 327) 3 (some .int) ∈ tTW :=
  ⟨jB_in (by decide +kernel), jB_in (by decide +kernel), jB_in (by decide +kernel), jB_in (by decide +kernel), jB_in (by decide +kernel), jB_in (by decide +kernel), jB_in (by decide +kernel)⟩
theorem jw_i : Cond.initialized "java/lang/String" ∈ tTW ∧ Cond.initialized "java/lang/StringLatin1" ∈ tTW ∧ Cond.initialized "jdk/internal/util/Preconditions" ∈ tTW := ⟨tTW_in (i := 134) (by decide +kernel), tTW_in (i := 135) (by decide +kernel), tTW_in (i := 136) (by decide +kernel)⟩
theorem jw_m : Cond.methodLink "TileHeel$TownText" 34 yLen ∈ tTW ∧ Cond.methodLink "java/lang/String" 335 yCod ∈ tTW ∧ Cond.methodLink "TileHeel$TownText" 40 yChr ∈ tTW ∧ Cond.methodLink "java/lang/String" 492 yLat ∈ tTW ∧ Cond.methodLink "java/lang/String" 495 ySlc ∈ tTW ∧ Cond.methodLink "java/lang/StringLatin1" 9 yChk ∈ tTW ∧ Cond.methodLink "java/lang/String" 1059 yPre ∈ tTW :=
  ⟨tTW_in (i := 299) (by decide +kernel), tTW_in (i := 303) (by decide +kernel), tTW_in (i := 309) (by decide +kernel), tTW_in (i := 313) (by decide +kernel), tTW_in (i := 317) (by decide +kernel), tTW_in (i := 320) (by decide +kernel), tTW_in (i := 325) (by decide +kernel)⟩
theorem jw_s : Cond.static ySlc ∈ tTW ∧ Cond.static yChk ∈ tTW ∧ Cond.static yPre ∈ tTW := ⟨tTW_in (i := 318) (by decide +kernel), tTW_in (i := 321) (by decide +kernel), tTW_in (i := 326) (by decide +kernel)⟩
theorem jw_v : (Cond.instanceMethod yLen ∈ tTW ∧ Cond.selects "java/lang/String" yLen yLen ∈ tTW) ∧ (Cond.instanceMethod yCod ∈ tTW ∧ Cond.selects "java/lang/String" yCod yCod ∈ tTW) ∧ (Cond.instanceMethod yChr ∈ tTW ∧ Cond.selects "java/lang/String" yChr yChr ∈ tTW) ∧ (Cond.instanceMethod yLat ∈ tTW ∧ Cond.selects "java/lang/String" yLat yLat ∈ tTW) :=
  ⟨⟨tTW_in (i := 300) (by decide +kernel), tTW_in (i := 301) (by decide +kernel)⟩, ⟨tTW_in (i := 304) (by decide +kernel), tTW_in (i := 305) (by decide +kernel)⟩, ⟨tTW_in (i := 310) (by decide +kernel), tTW_in (i := 311) (by decide +kernel)⟩, ⟨tTW_in (i := 314) (by decide +kernel), tTW_in (i := 315) (by decide +kernel)⟩⟩
theorem jw_f : Cond.fieldLink "java/lang/String" 38 "java/lang/String" "COMPACT_STRINGS" "Z" ∈ tTW ∧ Cond.fieldLink "java/lang/String" 1053 "jdk/internal/util/Preconditions" "SIOOBE_FORMATTER" "Ljava/util/function/BiFunction;" ∈ tTW ∧ Cond.fieldLink "java/lang/String" 9 "java/lang/String" "value" "[B" ∈ tTW ∧ Cond.fieldLink "java/lang/String" 15 "java/lang/String" "coder" "B" ∈ tTW :=
  ⟨tTW_in (i := 307) (by decide +kernel), tTW_in (i := 323) (by decide +kernel), tTW_in (i := 1788) (by decide +kernel), tTW_in (i := 1789) (by decide +kernel)⟩
theorem jd_pre : decode (jB 327) 0 = .ok (.iload_n 0, 1) ∧ decode (jB 327) 1 = .ok (.ifCond .lt 8, 3) ∧ decode (jB 327) 4 = .ok (.iload_n 0, 1) ∧ decode (jB 327) 5 = .ok (.iload_n 1, 1) ∧ decode (jB 327) 6 = .ok (.if_icmp .lt 10, 3) ∧ decode (jB 327) 16 = .ok (.iload_n 0, 1) ∧ decode (jB 327) 17 = .ok (.ireturn, 1) := by decide +kernel
theorem jd_chk : decode (jB 322) 0 = .ok (.iload_n 0, 1) ∧ decode (jB 322) 1 = .ok (.iload_n 1, 1) ∧ decode (jB 322) 2 = .ok (.getstatic 1053, 3) ∧ decode (jB 322) 5 = .ok (.invokestatic 1059, 3) ∧ decode (jB 322) 8 = .ok (.pop, 1) ∧ decode (jB 322) 9 = .ok (.return_, 1) := by decide +kernel
theorem jd_slc : decode (jB 319) 0 = .ok (.iload_n 1, 1) ∧ decode (jB 319) 1 = .ok (.aload_n 0, 1) ∧ decode (jB 319) 2 = .ok (.arraylength, 1) ∧ decode (jB 319) 3 = .ok (.invokestatic 9, 3) ∧ decode (jB 319) 6 = .ok (.aload_n 0, 1) ∧ decode (jB 319) 7 = .ok (.iload_n 1, 1) ∧ decode (jB 319) 8 = .ok (.baload, 1) ∧ decode (jB 319) 9 = .ok (.sipush 255, 3) ∧ decode (jB 319) 12 = .ok (.iand, 1) ∧ decode (jB 319) 13 = .ok (.i2c, 1) ∧ decode (jB 319) 14 = .ok (.ireturn, 1) := by decide +kernel
theorem jd_lat : decode (jB 316) 0 = .ok (.getstatic 38, 3) ∧ decode (jB 316) 3 = .ok (.ifCond .eq 14, 3) ∧ decode (jB 316) 6 = .ok (.aload_n 0, 1) ∧ decode (jB 316) 7 = .ok (.getfield 15, 3) ∧ decode (jB 316) 10 = .ok (.ifCond .ne 7, 3) ∧ decode (jB 316) 13 = .ok (.iconst 1, 1) ∧ decode (jB 316) 14 = .ok (.goto 4, 3) ∧ decode (jB 316) 18 = .ok (.ireturn, 1) := by decide +kernel
theorem jd_cod : decode (jB 306) 0 = .ok (.getstatic 38, 3) ∧ decode (jB 306) 3 = .ok (.ifCond .eq 10, 3) ∧ decode (jB 306) 6 = .ok (.aload_n 0, 1) ∧ decode (jB 306) 7 = .ok (.getfield 15, 3) ∧ decode (jB 306) 10 = .ok (.goto 4, 3) ∧ decode (jB 306) 14 = .ok (.ireturn, 1) := by decide +kernel
theorem jd_len : decode (jB 302) 0 = .ok (.aload_n 0, 1) ∧ decode (jB 302) 1 = .ok (.getfield 9, 3) ∧ decode (jB 302) 4 = .ok (.arraylength, 1) ∧ decode (jB 302) 5 = .ok (.aload_n 0, 1) ∧ decode (jB 302) 6 = .ok (.invokevirtual 335, 3) ∧ decode (jB 302) 9 = .ok (.ishr, 1) ∧ decode (jB 302) 10 = .ok (.ireturn, 1) := by decide +kernel
theorem jd_chr : decode (jB 312) 0 = .ok (.aload_n 0, 1) ∧ decode (jB 312) 1 = .ok (.invokevirtual 492, 3) ∧ decode (jB 312) 4 = .ok (.ifCond .eq 12, 3) ∧ decode (jB 312) 7 = .ok (.aload_n 0, 1) ∧ decode (jB 312) 8 = .ok (.getfield 9, 3) ∧ decode (jB 312) 11 = .ok (.iload_n 1, 1) ∧ decode (jB 312) 12 = .ok (.invokestatic 495, 3) ∧ decode (jB 312) 15 = .ok (.ireturn, 1) := by decide +kernel
def tQ (v : Option Value) : Array Value → State → Outcome → State → Prop := fun _ st o t => o = .returned v ∧ t.heap = st.heap
def tPc (B g : Nat) (av : List Value) : Array Value → State → Prop := va_Pc av (fun U => mmStr B g U)
def tRm (f n : Nat) : Room := { frames := f, cells := 0, slots := 0, locals := n }
section JT
variable {l : Launch} {B g : Nat} {av : List Value} {v : Option Value}
theorem tPc_blind : FrameBlind (tPc B g av) := fun a U gg mk q => ⟨q.1, mmStr.same rfl rfl q.2⟩
def tSs (B g a : Nat) (U : State) : Prop := mmStr B g U ∧ va_T .byte a 140 (fun j => .int ((sByt.getD 0 []).getD j 0)) (mmA B) U U.heap
theorem tSs_blind {a : Nat} : FrameBlind (va_Pc av (tSs B g a)) := fun a' U gg mk q => ⟨q.1, mmStr.same rfl rfl q.2.1, (va_T.moved (Vm.Alike.refl U.vm) q.2.2 : va_T .byte a 140 (fun j => .int ((sByt.getD 0 []).getD j 0)) (mmA B) (U.calling gg mk a') U.heap)⟩
theorem t_body {S : State → Prop} {y : MethodName} {cc : ByteArray} {n : Nat} {ret : Option FieldType} {rm : Room} (hy : plainName y.cls = true) (hlen : (lg_sl av).length ≤ n)
    (body : ∀ (p : Program) (e : Env) (s : State) (m : MethodId) (below : List Frame) (meth : Method) (c : Code) (ls : Array Slot), p.tables.exec = Jvm.exec → c.code = cc → c.maxLocals = n → meth.sig.returnType = ret → meth.locks = false → s.vm.findClass y.cls = some m.cls → (∀ w ∈ (Cond.code y cc n ret :: tTW), w.before av.toArray s = true) → S s → lv_has ls n (lv_args 0 av) →
      W p l e rm s m av.toArray below meth c s.heap [] 0 0 (MQ below (tQ v) av.toArray s 0 0 (fun _ => False)) (F0 m 0 ls [])) :
    Met l y (Cond.code y cc n ret :: tTW) rm (va_Pc av S) (tQ v) 0 0 (fun _ => False) := by
  refine Met.ofW (cc := cc) (maxL := n) (ret := ret) hy rfl ?_
  intro p e s m args below meth c s₁ BB hml hv
  obtain ⟨rfl, hst⟩ := hv
  have hl := lv_entry av (n := n) hlen
  rw [lg_entry_eq]
  generalize (lg_sl av ++ List.replicate (n - (lg_sl av).length) Slot.unset).toArray = ls at hl ⊢
  exact body p e s m below meth c ls BB.exec BB.bytes hml BB.returns BB.notSynchronized (findClass_of_methodNamed BB.named) (atoms_spec (ws := Cond.code y cc n ret :: tTW) BB.pre) hst hl
end JT
section JA
variable {p : Program} {l : Launch} {e : Env} {R : Room} {s : State} {m : MethodId} {args : Array Value} {below : List Frame} {meth : Method} {c : Code} {H : Heap} {locs : List Loc} {cells slots : Nat} {Q : State → Prop} {B g : Nat}
theorem t_after {pc : Nat} {ls : Array Slot} {st0 rest : List Value} {v : Option Value} {y : Array Value} (hrun : va_Run p l e R s m args below meth c H locs cells slots 0 0 (F0 m pc ls st0) rest (tQ v y) (fun _ => False)) (kk : W p l e R s m args below meth c H locs cells slots Q (F0 m (pc + 3) ls (v.toList ++ rest))) : W p l e R s m args below meth c H locs cells slots Q (F0 m pc ls st0) := by
  intro T hT X
  obtain ⟨v', st₀, t, T', Lc, h0, X', hL, e1, e2, ⟨hv, hh⟩, stp⟩ := hrun T hT X
  have hv : v' = v := Outcome.returned.inj hv
  subst hv
  have eL : Lc = [] := by
    cases Lc with
    | nil => rfl
    | cons q qs => exact (hL q List.mem_cons_self).elim
  subst eL
  rw [List.append_nil] at X'
  obtain ⟨t2, a1, b1⟩ := kk T' (by rw [e1, hh, h0]) X'
  exact ⟨t2, stp t2 a1, b1⟩
theorem t_cb {Ts : List Cond} {own : String} {idx k n : Nat} {y : MethodName} {bytes : ByteArray} {ret : Option FieldType} {f w : Nat} (hts : ∀ w ∈ Ts, w.before args s = true) (hTW : ∀ w ∈ tTW, w ∈ Ts) (h1 : Cond.initialized y.cls ∈ tTW) (h2 : Cond.methodLink own idx y ∈ tTW) (h3 : Cond.code y bytes n ret ∈ tTW) (hd : y.cls ≠ "java/lang/invoke/MethodHandle" ∧ y.cls ≠ "java/lang/invoke/VarHandle" ∧ (parseMethodDescriptor y.desc).map (fun d => d.parameters.length) = some k) (hR : f + 1 ≤ R.frames ∧ 8 + (n + 11) + w ≤ R.locals) :
    CallB R s args own idx y bytes n ret (Cond.code y bytes n ret :: tTW) (tRm f w) 0 0 k :=
  callB_of k hts (mm_good tTW_good hTW h3) rfl rfl rfl (hts _ (hTW _ h1)) (hts _ (hTW _ h2)) hd hR
theorem t_preS {a : Nat} {av : List Value} (hS : va_S (mmA B) s.heap H locs) (hst : tSs B g a s) : ∀ U : State, U.heap = H → s.WarmedH U.vm → va_Pc av (tSs B g a) av.toArray U := fun U hU hW => by
  have k : ∀ q : Nat, q < s.heap.size → ¬ mmA B q → U.heap[q]? = s.heap[q]? := fun q q1 q2 => by rw [hU]; exact hS.2.1 q q1 q2
  exact ⟨rfl, mmStr.moved hW k hst.1, (va_T.moved hW.alike hst.2).kept k⟩
theorem t_pre {av : List Value} (hS : va_S (mmA B) s.heap H locs) (hst : mmStr B g s) : ∀ U : State, U.heap = H → s.WarmedH U.vm → tPc B g av av.toArray U := fun U hU hW => ⟨rfl, mmStr.moved hW (fun q q1 q2 => by rw [hU]; exact hS.2.1 q q1 q2) hst⟩
end JA
section JM
variable {l : Launch} {B g : Nat}
theorem j_up {y : MethodName} {cc : ByteArray} {n : Nat} {ret : Option FieldType} : ∀ w ∈ tTW, w ∈ (Cond.code y cc n ret :: tTW) := fun w h => List.mem_cons_of_mem _ h
/-- Preconditions.checkIndex, inside -/
theorem j_pre {i n : Nat} {v : Value} (hi : i < n) (hn : n < 2147483648) (hv : v.category = 1) : Met l yPre (Cond.code yPre (jB 327) 3 (some .int) :: tTW) (tRm 0 20) (tPc B g [.int (nI i), .int (nI n), v]) (tQ (some (.int (nI i)))) 0 0 (fun _ => False) := by
  refine t_body (by decide +kernel) (by cases v <;> first | exact Nat.le_of_ble_eq_true rfl | exact absurd hv (by intro h; cases h)) (fun p e s m below meth c ls hx hb hml hr hlk hown hts hst hl => ?_)
  obtain ⟨d0, d1, d4, d5, d6, d16, d17⟩ := jd_pre
  have l0 : ls[0]? = some (.val (.int (nI i))) := lv_at hl 0 rfl
  have l1 : ls[1]? = some (.val (.int (nI n))) := lv_at hl 1 rfl
  refine lv_iload_n hx hb d0 rfl l0 ?_
  refine lv_if_lt hx hb d1 (tgt := 9) rfl (fun q => absurd q (nI_pos (by omega))) (fun _ => ?_)
  refine lv_iload_n hx hb d4 rfl l0 ?_
  refine lv_iload_n hx hb d5 rfl l1 ?_
  refine lv_icmp_lt hx hb d6 (tgt := 16) rfl (fun _ => ?_) (fun q => absurd (nI_lt hi hn) q)
  refine lv_iload_n hx hb d16 rfl l0 ?_
  exact W.iret hx hb hr (fun t ht _ => ⟨rfl, ht⟩) (fun q hq => by cases hq) d17 hlk
/-- String.checkIndex, inside -/
theorem j_chk {i n : Nat} (hi : i < n) (hn : n < 2147483648) : Met l yChk (Cond.code yChk (jB 322) 2 none :: tTW) (tRm 1 60) (tPc B g [.int (nI i), .int (nI n)]) (tQ none) 0 0 (fun _ => False) := by
  refine t_body (by decide +kernel) (Nat.le_of_ble_eq_true rfl) (fun p e s m below meth c ls hx hb hml hr hlk hown hts hst hl => ?_)
  obtain ⟨d0, d1, d2, d5, d8, d9⟩ := jd_chk
  have l0 : ls[0]? = some (.val (.int (nI i))) := lv_at hl 0 rfl
  have l1 : ls[1]? = some (.val (.int (nI n))) := lv_at hl 1 rfl
  refine lv_iload_n hx hb d0 rfl l0 ?_
  refine lv_iload_n hx hb d1 rfl l1 ?_
  have tw : ∀ w ∈ tTW, w.before [Value.int (nI i), Value.int (nI n)].toArray s = true := fun w h => hts w (j_up w h)
  have go : ∀ v : Value, v.category = 1 → W p l e (tRm 1 60) s m [Value.int (nI i), Value.int (nI n)].toArray below meth c s.heap [] 0 0 (MQ below (tQ none) [Value.int (nI i), Value.int (nI n)].toArray s 0 0 (fun _ => False)) (F0 m 5 ls [v, .int (nI n), .int (nI i)]) := fun v hv => by
    refine t_after (v := some (.int (nI i))) (rest := []) (va_runS (As := [.int (nI i), .int (nI n), v]) ⟨hx, hb, hml, hown, hts⟩ (j_pre hi hn hv) ⟨t_cb (k := 3) hts j_up jw_i.2.2 jw_m.2.2.2.2.2.2 jw_c.2.2.2.2.2.2 (by decide +kernel) ⟨by decide, by decide⟩, tw _ jw_s.2.2⟩ ⟨tPc_blind, t_pre va_S.rf hst⟩ rfl rfl hl.1 rfl (Nat.le_of_ble_eq_true rfl) d5 ⟨by decide, by decide⟩) ?_
    refine lv_pop hx hb d8 rfl ?_
    exact W.vret hx hb hr (fun t ht _ => ⟨rfl, ht⟩) (fun q hq => by cases hq) d9 hlk
  obtain ⟨-, -, -, h4⟩ := hst
  rcases h4 with h4 | ⟨t, h4⟩
  · exact va_gets hx hb h4 va_S.rf hown (tw _ jw_f.2.1) (fun _ h => h) d2 (go _ rfl)
  · exact va_gets hx hb h4 va_S.rf hown (tw _ jw_f.2.1) (fun _ h => h) d2 (go _ rfl)
theorem sByt_ok : ∀ j : Fin 140, ((sByt.getD 0 []).getD j.val 0 &&& 255).toUInt32 % 65536 = ((sByt.getD 0 []).getD j.val 0).toUInt32 ∧ (sByt.getD 0 []).getD j.val 0 = Int32.ofInt (tTx0.getD j.val 0) ∧ narrow .char (.int ((sByt.getD 0 []).getD j.val 0)) = .int ((sByt.getD 0 []).getD j.val 0) := by decide +kernel
theorem tTx0_len : tTx0.length = 140 := by decide +kernel
/-- StringLatin1.charAt, inside -/
theorem j_slc {a i : Nat} (hi : i < 140) : Met l ySlc (Cond.code ySlc (jB 319) 2 (some .char) :: tTW) (tRm 2 90) (va_Pc [.ref a, .int (nI i)] (tSs B g a)) (tQ (some (.int ((sByt.getD 0 []).getD i 0)))) 0 0 (fun _ => False) := by
  refine t_body (by decide +kernel) (Nat.le_of_ble_eq_true rfl) (fun p e s m below meth c ls hx hb hml hr hlk hown hts hst hl => ?_)
  obtain ⟨d0, d1, d2, d3, d6, d7, d8, d9, d12, d13, d14⟩ := jd_slc
  have l0 : ls[0]? = some (.val (.ref a)) := lv_at hl 0 rfl
  have l1 : ls[1]? = some (.val (.int (nI i))) := lv_at hl 1 rfl
  obtain ⟨hst, hT⟩ := hst
  have tw : ∀ w ∈ tTW, w.before [Value.ref a, Value.int (nI i)].toArray s = true := fun w h => hts w (j_up w h)
  obtain ⟨o1, o2, o3⟩ := sByt_ok ⟨i, hi⟩
  simp only [] at o1 o2 o3
  refine lv_iload_n hx hb d0 rfl l1 ?_
  refine lv_aload_n hx hb d1 rfl l0 ?_
  refine va_tlen hx hb hT va_S.rf (v := nI 140) rfl d2 ?_
  refine t_after (v := none) (rest := []) (va_runS (As := [.int (nI i), .int (nI 140)]) ⟨hx, hb, hml, hown, hts⟩ (j_chk hi (by decide)) ⟨t_cb (k := 2) hts j_up jw_i.1 jw_m.2.2.2.2.2.1 jw_c.2.2.2.2.2.1 (by decide +kernel) ⟨by decide, by decide⟩, tw _ jw_s.2.1⟩ ⟨tPc_blind, t_pre va_S.rf hst⟩ rfl rfl hl.1 rfl (Nat.le_of_ble_eq_true rfl) d3 ⟨by decide, by decide⟩) ?_
  refine lv_aload_n hx hb d6 rfl l0 ?_
  refine lv_iload_n hx hb d7 rfl l1 ?_
  obtain ⟨cell, h1, h2, h3, h4, h5, h6, h7⟩ := hT
  have ci : (nI i).toNatClampNeg = i := nI_clamp (by omega)
  refine W.bald (v := .int ((sByt.getD 0 []).getD i 0)) hx hb h1 h2 h3 (fun q => ?_) (by rw [ci]; exact h6 i hi) rfl rfl d8 ?_
  · rw [ci] at q
    rcases q with q | q
    · exact nI_pos (by omega) q
    · omega
  refine lv_sipush hx hb d9 (v := 255) rfl ?_
  refine lv_iand hx hb d12 ?_
  refine lv_i2c hx hb d13 (v := (sByt.getD 0 []).getD i 0) (by rw [o1]; exact Int32.toInt32_toUInt32 _) ?_
  exact W.zret hx hb hr o3 (fun t ht _ => ⟨rfl, ht⟩) (fun q hq => by cases hq) d14 hlk
theorem j_lat : Met l yLat (Cond.code yLat (jB 316) 1 (some .boolean) :: tTW) (tRm 0 20) (tPc B g [.ref g]) (tQ (some (.int 1))) 0 0 (fun _ => False) := by
  refine t_body (by decide +kernel) (Nat.le_of_ble_eq_true rfl) (fun p e s m below meth c ls hx hb hml hr hlk hown hts hst hl => ?_)
  obtain ⟨d0, d3, d6, d7, d10, d13, d14, d18⟩ := jd_lat
  have l0 : ls[0]? = some (.val (.ref g)) := lv_at hl 0 rfl
  have tw : ∀ w ∈ tTW, w.before [Value.ref g].toArray s = true := fun w h => hts w (j_up w h)
  obtain ⟨adV, ⟨h1, h2⟩, h3, h4⟩ := hst
  refine va_gets hx hb h3 va_S.rf hown (tw _ jw_f.1) (fun _ h => h) d0 ?_
  refine lv_if_eq hx hb d3 (tgt := 17) rfl (fun q => absurd q (by decide)) (fun _ => ?_)
  refine lv_aload_n hx hb d6 rfl l0 ?_
  refine vk_getf hx hb (h1.1 0 (by decide)).2.1 va_S.rf hown (tw _ jw_f.2.2.2) (fun _ h => h) d7 ?_
  refine lv_if_ne hx hb d10 (tgt := 17) rfl (fun q => absurd rfl q) (fun _ => ?_)
  refine lv_iconst hx hb d13 (v := 1) rfl ?_
  refine lv_goto hx hb d14 (tgt := 18) rfl ?_
  exact W.zret hx hb hr rfl (fun t ht _ => ⟨rfl, ht⟩) (fun q hq => by cases hq) d18 hlk
theorem j_cod : Met l yCod (Cond.code yCod (jB 306) 1 (some .byte) :: tTW) (tRm 0 20) (tPc B g [.ref g]) (tQ (some (.int 0))) 0 0 (fun _ => False) := by
  refine t_body (by decide +kernel) (Nat.le_of_ble_eq_true rfl) (fun p e s m below meth c ls hx hb hml hr hlk hown hts hst hl => ?_)
  obtain ⟨d0, d3, d6, d7, d10, d14⟩ := jd_cod
  have l0 : ls[0]? = some (.val (.ref g)) := lv_at hl 0 rfl
  have tw : ∀ w ∈ tTW, w.before [Value.ref g].toArray s = true := fun w h => hts w (j_up w h)
  obtain ⟨adV, ⟨h1, h2⟩, h3, h4⟩ := hst
  refine va_gets hx hb h3 va_S.rf hown (tw _ jw_f.1) (fun _ h => h) d0 ?_
  refine lv_if_eq hx hb d3 (tgt := 13) rfl (fun q => absurd q (by decide)) (fun _ => ?_)
  refine lv_aload_n hx hb d6 rfl l0 ?_
  refine vk_getf hx hb (h1.1 0 (by decide)).2.1 va_S.rf hown (tw _ jw_f.2.2.2) (fun _ h => h) d7 ?_
  refine lv_goto hx hb d10 (tgt := 14) rfl ?_
  exact W.zret hx hb hr rfl (fun t ht _ => ⟨rfl, ht⟩) (fun q hq => by cases hq) d14 hlk
theorem j_recv {s : State} {H : Heap} {locs : List Loc} (hst : mmStr B g s) (hS : va_S (mmA B) s.heap H locs) : ∃ cell : Cell, H[g]? = some cell ∧ cell.vm.isStatics = false ∧ s.vm.findClass "java/lang/String" = some cell.cls := by
  obtain ⟨adV, ⟨h1, h2⟩, h3, h4⟩ := hst
  exact vk_recv (adK := fun _ => g) (i := 0) h1 (by decide) hS
theorem j_len : Met l yLen (Cond.code yLen (jB 302) 1 (some .int) :: tTW) (tRm 1 60) (tPc B g [.ref g]) (tQ (some (.int (nI 140)))) 0 0 (fun _ => False) := by
  refine t_body (by decide +kernel) (Nat.le_of_ble_eq_true rfl) (fun p e s m below meth c ls hx hb hml hr hlk hown hts hst hl => ?_)
  obtain ⟨d0, d1, d4, d5, d6, d9, d10⟩ := jd_len
  have l0 : ls[0]? = some (.val (.ref g)) := lv_at hl 0 rfl
  have tw : ∀ w ∈ tTW, w.before [Value.ref g].toArray s = true := fun w h => hts w (j_up w h)
  have hst' := hst
  obtain ⟨adV, ⟨h1, h2⟩, h3, h4⟩ := hst
  obtain ⟨-, -, k3, k4⟩ := h1.1 0 (by decide)
  refine lv_aload_n hx hb d0 rfl l0 ?_
  refine vk_getf hx hb k3 va_S.rf hown (tw _ jw_f.2.2.1) (fun _ h => h) d1 ?_
  refine va_tlen hx hb k4 va_S.rf (v := nI 140) rfl d4 ?_
  refine lv_aload_n hx hb d5 rfl l0 ?_
  refine t_after (v := some (.int 0)) (rest := [.int (nI 140)]) (va_runV (As := []) (b := g) ⟨hx, hb, hml, hown, hts⟩ j_cod ⟨t_cb (k := 0) hts j_up jw_i.1 jw_m.2.1 jw_c.2.1 (by decide +kernel) ⟨by decide, by decide⟩, tw _ jw_v.2.1.1, tw _ jw_v.2.1.2⟩ ⟨tPc_blind, j_recv hst' va_S.rf, t_pre va_S.rf hst'⟩ rfl rfl hl.1 rfl (Nat.le_of_ble_eq_true rfl) d6 ⟨by decide, by decide⟩) ?_
  refine lv_ishr hx hb d9 ?_
  rw [show nI 140 >>> ((0 : Int32) &&& 31) = nI 140 by decide +kernel]
  exact W.iret hx hb hr (fun t ht _ => ⟨rfl, ht⟩) (fun q hq => by cases hq) d10 hlk
theorem j_chr {i : Nat} (hi : i < 140) : Met l yChr (Cond.code yChr (jB 312) 2 (some .char) :: tTW) (tRm 3 120) (tPc B g [.ref g, .int (nI i)]) (tQ (some (.int ((sByt.getD 0 []).getD i 0)))) 0 0 (fun _ => False) := by
  refine t_body (by decide +kernel) (Nat.le_of_ble_eq_true rfl) (fun p e s m below meth c ls hx hb hml hr hlk hown hts hst hl => ?_)
  obtain ⟨d0, d1, d4, d7, d8, d11, d12, d15⟩ := jd_chr
  have l0 : ls[0]? = some (.val (.ref g)) := lv_at hl 0 rfl
  have l1 : ls[1]? = some (.val (.int (nI i))) := lv_at hl 1 rfl
  have tw : ∀ w ∈ tTW, w.before [Value.ref g, Value.int (nI i)].toArray s = true := fun w h => hts w (j_up w h)
  have hst' := hst
  obtain ⟨adV, ⟨h1, h2⟩, h3, h4⟩ := hst
  obtain ⟨-, -, k3, k4⟩ := h1.1 0 (by decide)
  obtain ⟨o1, o2, o3⟩ := sByt_ok ⟨i, hi⟩
  simp only [] at o1 o2 o3
  refine lv_aload_n hx hb d0 rfl l0 ?_
  refine t_after (v := some (.int 1)) (rest := []) (va_runV (As := []) (b := g) ⟨hx, hb, hml, hown, hts⟩ j_lat ⟨t_cb (k := 0) hts j_up jw_i.1 jw_m.2.2.2.1 jw_c.2.2.2.1 (by decide +kernel) ⟨by decide, by decide⟩, tw _ jw_v.2.2.2.1, tw _ jw_v.2.2.2.2⟩ ⟨tPc_blind, j_recv hst' va_S.rf, t_pre va_S.rf hst'⟩ rfl rfl hl.1 rfl (Nat.le_of_ble_eq_true rfl) d1 ⟨by decide, by decide⟩) ?_
  refine lv_if_eq hx hb d4 (tgt := 16) rfl (fun q => absurd q (by decide)) (fun _ => ?_)
  refine lv_aload_n hx hb d7 rfl l0 ?_
  refine vk_getf hx hb k3 va_S.rf hown (tw _ jw_f.2.2.1) (fun _ h => h) d8 ?_
  refine lv_iload_n hx hb d11 rfl l1 ?_
  refine t_after (v := some (.int ((sByt.getD 0 []).getD i 0))) (rest := []) (va_runS (As := [.ref (adV 0), .int (nI i)]) ⟨hx, hb, hml, hown, hts⟩ (j_slc hi) ⟨t_cb (k := 2) hts j_up jw_i.2.1 jw_m.2.2.2.2.1 jw_c.2.2.2.2.1 (by decide +kernel) ⟨by decide, by decide⟩, tw _ jw_s.1⟩ ⟨tSs_blind, t_preS va_S.rf ⟨hst', k4⟩⟩ rfl rfl hl.1 rfl (Nat.le_of_ble_eq_true rfl) d12 ⟨by decide, by decide⟩) ?_
  exact W.zret hx hb hr o3 (fun t ht _ => ⟨rfl, ht⟩) (fun q hq => by cases hq) d15 hlk
end JM
