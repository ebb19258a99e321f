/-! THE CLAIM OUT OF ONE WALK OF THE LAW'S BODY. Your part is whole_start (and what it stands on); all else here is the same for every law, but numbers. -/
def R_law : String := "TileHeelLaw"
def lw_P (b : Addr) (xs : List Int32) (args : Array Value) (s : State) : Prop := args = #[.ref b] ∧ s.IntsAt b xs ∧ xs.length ≤ 3072 ∧ (Jvm.Cond.and given_1 narrow_1).before args s = true
def lw_Q (_ : Array Value) (s : State) (o : Outcome) (t : State) : Prop := o = .returned (some (.int 1)) ∧ Framed s o t [] 600000 7302250
def lw_Z (below : List Frame) (a : Array Value) (s : State) : State → Prop := fun t => ∃ o, t.status = .running ∧ Ended t below o ∧ lw_Q a s o t
/-- the law's own end, with 1 on the stack, nothing written that was there before, its room as the claim has it -/
theorem lw_ret {p : Program} {l : Launch} {e : Env} {s : State} {m : MethodId} {below : List Frame} {meth : Method} {c : Code} {b : Nat} (hx : p.tables.exec = Jvm.exec) (hb : c.code = code) (hr : meth.sig.returnType = ret) (hlocks : meth.locks = false) {pc : Nat} {H : Heap} {ls : Array Slot} (hdg : decode code pc = .ok (.ireturn, 1)) : W p l e room_1 s m #[Value.ref b] below meth c H [] 600000 7302250 (lw_Z below #[Value.ref b] s) (F0 m pc ls [.int 1]) := by
  intro T hT X
  obtain ⟨fs, hret, hrun, hended, hW, hframe⟩ := X.leave (v := some (.int 1)) (hlocks := hlocks) (fun h => by rw [hr] at h; cases h)
  have hmeth' : T.vm.method? m = some meth := X.method'
  refine ⟨T.setFrames fs, ?_, .returned (some (.int 1)), hrun, hended, rfl, ⟨_, rfl⟩, hW, hframe⟩
  jvm_step X.here [X.here.top, hx, hb, hdg, hmeth', hr, ret, narrow_b1]
  (try refine ⟨rfl, ?_⟩); (try refine ⟨rfl, ?_⟩)
  first | (intro acts; rw [hret _ acts rfl rfl rfl]) | rw [hret _ _ rfl rfl rfl]
  exact Steps.refl _
/-- what holds at the law's entry: the machine, the code, the tables' words (any of lw_tbl by 'hts w (by decide +kernel)'), the script of L ints xs at the cell b, what the Statement gives of the start (any of its parts by flat_of_before) -/
def lw_At (p : Program) (s : State) (m : MethodId) (meth : Method) (c : Code) (b L : Nat) (xs : Nat → Int32) : Prop :=
  p.tables.exec = Jvm.exec ∧ c.code = code ∧ meth.sig.returnType = ret ∧ c.maxLocals = 4 ∧ s.vm.findClass R_law = some m.cls ∧ (∀ w ∈ lw_tbl, w.before #[Value.ref b] s = true) ∧ va_X b L xs s s.heap ∧ b < s.heap.size ∧ meth.locks = false ∧ (Jvm.Cond.and given_1 narrow_1).before #[Value.ref b] s = true
theorem tInst : ∀ ci, ci < 7 → Cond.instantiable (tNm ci) (([12, 9, 13, 13, 8, 10, 72] : List Nat).getD ci 0) ∈ tTW
  | 0, _ => tTW_in (i := 145) (by decide +kernel)
  | 1, _ => tTW_in (i := 153) (by decide +kernel)
  | 2, _ => tTW_in (i := 159) (by decide +kernel)
  | 3, _ => tTW_in (i := 167) (by decide +kernel)
  | 4, _ => tTW_in (i := 381) (by decide +kernel)
  | 5, _ => tTW_in (i := 427) (by decide +kernel)
  | 6, _ => tTW_in (i := 1090) (by decide +kernel)
  | n + 7, h => absurd h (by omega)
abbrev sTm : Term := Term.string "TileHeel$TownText" 32
abbrev sVl : Term := Term.field sTm "java/lang/String" "value" "[B"
abbrev gvn : List Cond := flatC (Jvm.Cond.and given_1 narrow_1)
theorem gv_str : (gvn[4]? = some (Cond.eq (.static "java/lang/String" "COMPACT_STRINGS" "Z") (.int 1)) ∧ gvn[5]? = some (Cond.isRef (.static "jdk/internal/util/Preconditions" "SIOOBE_FORMATTER" "Ljava/util/function/BiFunction;"))) ∧ (gvn[9]? = some (Cond.exactly sTm "java/lang/String") ∧ gvn[10]? = some (Cond.eq (.field sTm "java/lang/String" "coder" "B") (.int 0))) ∧ (gvn[11]? = some (Cond.arrayOf sVl .byte) ∧ gvn[12]? = some (Cond.eq (.length sVl) (.int 140))) := by decide +kernel
theorem gv_elm : ∀ j : Fin 140, gvn[13 + j.val]? = some (Cond.eq (.elem sVl (.int (Int32.ofNat j.val))) (.int ((sByt.getD 0 []).getD j.val 0))) := by decide +kernel
theorem tStrRef : lw_tbl[298]? = some (Cond.stringRef "TileHeel$TownText" 32 sTx) := by decide +kernel
theorem tLays : lw_tbl[308]? = some (Cond.laysStatic "java/lang/String" "COMPACT_STRINGS" "Z") ∧ lw_tbl[324]? = some (Cond.laysStatic "jdk/internal/util/Preconditions" "SIOOBE_FORMATTER" "Ljava/util/function/BiFunction;") := by decide +kernel
theorem tOver : lw_tbl[425]? = some (Cond.arrayOver (.object "TileHeel$Roofs")) ∧ lw_tbl[165]? = some (Cond.arrayOver (.array .int)) := by decide +kernel
theorem l_str {s : State} {B b : Nat} (hB : s.heap.size = B + 1) (hts : ∀ w ∈ lw_tbl, w.before #[Value.ref b] s = true) (hgv : (Jvm.Cond.and given_1 narrow_1).before #[Value.ref b] s = true) : ∃ g : Nat, mmStr B g s := by
  have hg := flat_of_before _ hgv
  have at' : ∀ {i : Nat} {w : Cond}, gvn[i]? = some w → w.before #[Value.ref b] s = true := fun h => hg _ (List.mem_of_getElem? h)
  have tb' : ∀ {i : Nat} {w : Cond}, lw_tbl[i]? = some w → w.before #[Value.ref b] s = true := fun h => hts _ (List.mem_of_getElem? h)
  have hA : ∀ a : Nat, a < s.heap.size → ¬ mmA B a := fun a h q => by unfold mmA at q; omega
  obtain ⟨⟨g1, g2⟩, ⟨g3, g4⟩, ⟨g5, g6⟩⟩ := gv_str
  obtain ⟨adK, adV, hS, hE⟩ := vk_Sof (N := 1) (tm := fun _ => sTm) (len := [140]) (byt := sByt) (A := mmA B) (args := #[Value.ref b]) (s := s) (fun i hi => by
    have : i = 0 := by omega
    subst this
    decide) (fun _ _ => at' g3) (fun _ _ => at' g4) (fun _ _ => at' g5) (fun i hi => by
    have : i = 0 := by omega
    subst this
    exact at' g6) (fun i hi j hj => by
    have : i = 0 := by omega
    subst this
    exact at' (gv_elm ⟨j, hj⟩)) (fun i j hi hj hij => absurd (by omega) hij) hA
  refine ⟨adK 0, adV, ⟨⟨fun i hi => ?_, fun i j hi hj _ => by omega⟩, ?_⟩, ?_, ?_⟩
  · have : i = 0 := by omega
    subst this
    exact hS.1 0 hi
  · exact vk_R.of (tb' tStrRef) (hE 0 (by decide))
  · exact va_Zof (tb' tLays.1) (hts _ (List.mem_filter.mp jw_i.1).1) (va_eqt (at' g1)) hA
  · exact va_Zqof (tb' tLays.2) (hts _ (List.mem_filter.mp jw_i.2.2).1) (at' g2) hA
theorem l_arr {s : State} {b : Nat} (hts : ∀ w ∈ lw_tbl, w.before #[Value.ref b] s = true) : ∀ kd, kd < 6 → ∃ cA : ClassId, ArrOfT s cA (mmKt kd) ∧ va_RA s cA (mmKt kd) := by
  have tb' : ∀ {i : Nat} {w : Cond}, lw_tbl[i]? = some w → w.before #[Value.ref b] s = true := fun h => hts _ (List.mem_of_getElem? h)
  intro kd hkd
  by_cases h4 : kd < 4
  · have hw := (tAr_ok kd h4).1
    obtain ⟨c, k, comp, f1, f2, f3⟩ := Cond.arrayClass_spec (tb' hw)
    refine ⟨c, fun n z => ⟨fun q hq => (by cases hq), k, f2, comp, f3⟩, ?_⟩
    clear hw hts tb'
    rcases (show kd = 0 ∨ kd = 1 ∨ kd = 2 ∨ kd = 3 by omega) with e | e | e | e <;> subst e <;> exact f1
  · by_cases h5 : kd = 4
    · subst h5
      obtain ⟨comp, c, k, f1, f2, f3, f4⟩ := Cond.arrayOver_specA (tb' tOver.2)
      exact ⟨c, fun n z => ⟨fun q hq => (by cases hq), k, f2, comp, f3⟩, f4⟩
    · have h5 : kd = 5 := by omega
      subst h5
      obtain ⟨comp, c, k, f1, f2, f3, f4, f5⟩ := Cond.arrayOver_spec (tb' tOver.1)
      exact ⟨c, fun n z => ⟨fun q hq => (by cases hq), k, f3, comp, f4⟩, k, comp, f3, f4, f1, f5⟩
theorem l_cls {s : State} {b : Nat} (hts : ∀ w ∈ tTW, w.before #[Value.ref b] s = true) : ∀ ci, ci < 7 → ∃ (cC : ClassId) (iS : Nat → Nat), u_Kn s (tNm ci) (tFd ci) (tN ci) cC iS := fun ci h => by
  obtain ⟨F1, F2, -⟩ := tF
  obtain ⟨e1, e2, -⟩ := F2 ci _ _ _ (tCl_at ci h)
  exact u_known hts e2 (hts _ (tInst ci h))
set_option maxHeartbeats 4000000 in
/-- YOUR PART: from the entry, for every script of at most 3072 ints, the law comes to its end with true -/
theorem whole_start {p : Program} {e : Env} {s : State} {m : MethodId} {below : List Frame} {meth : Method} {c : Code} (l : Launch) (hflags : l.flags = flags0) {b L : Nat} {xs : Nat → Int32} (hL : L ≤ 3072) (C0 : lw_At p s m meth c b L xs) : W p l e room_1 s m #[Value.ref b] below meth c s.heap [] 0 0 (lw_Z below #[Value.ref b] s) (entryFrame m ([Value.ref b] : List Value).toArray 4) := by
  obtain ⟨hx, hb, hr, hml, hown, hts, hX, hbl, hlk, hgv⟩ := C0
  obtain ⟨B, hB⟩ : ∃ B : Nat, s.heap.size = B + 1 := ⟨s.heap.size - 1, by omega⟩
  have tw : ∀ w ∈ tTW, w.before #[Value.ref b] s = true := fun w h => hts w (List.mem_filter.mp h).1
  obtain ⟨g, hstr⟩ := l_str hB hts hgv
  have hc0 : ∀ ci : Nat, ∃ q : ClassId × (Nat → Nat), ci < 7 → u_Kn s (tNm ci) (tFd ci) (tN ci) q.1 q.2 := fun ci => by
    by_cases h : ci < 7
    · obtain ⟨cC, iS, hk⟩ := l_cls tw ci h
      exact ⟨(cC, iS), fun _ => hk⟩
    · exact ⟨(0, fun _ => 0), fun q => absurd q h⟩
  obtain ⟨f, hf⟩ := Classical.axiomOfChoice hc0
  have ha0 : ∀ kd : Nat, ∃ cA : ClassId, kd < 6 → ArrOfT s cA (mmKt kd) ∧ va_RA s cA (mmKt kd) := fun kd => by
    by_cases h : kd < 6
    · obtain ⟨cA, hk⟩ := l_arr hts kd h
      exact ⟨cA, fun _ => hk⟩
    · exact ⟨0, fun q => absurd q h⟩
  obtain ⟨aC, hac⟩ := Classical.axiomOfChoice ha0
  have htys : ∀ kd, kd < 6 → ((List.range 6).map (fun kd => (aC kd, mmKt kd)))[kd]? = some (aC kd, mmKt kd) := fun kd h => by
    rw [List.getElem?_map, List.getElem?_range h]
    rfl
  have hK : va_K (fun ci => (f ci).1, fun ci => (f ci).2) tCl ((List.range 6).map (fun kd => (aC kd, mmKt kd))) s := by
    refine ⟨fun ci q hq => ?_, fun k q hq => ?_⟩
    · obtain ⟨h7, rfl⟩ := tCl_lt hq
      exact hf ci h7
    · rw [List.getElem?_map] at hq
      by_cases h : k < 6
      · rw [List.getElem?_range h] at hq
        have hq : some (aC k, mmKt k) = some q := hq
        rw [← Option.some.inj hq]
        exact hac k h
      · rw [List.getElem?_eq_none (by rw [List.length_range]; omega)] at hq
        cases hq
  have hKA : mmKA (fun ci => (f ci).1, fun ci => (f ci).2) tCl ((List.range 6).map (fun kd => (aC kd, mmKt kd))) s := ⟨hK, hts _ (List.mem_of_getElem? tOver.1), hts _ (List.mem_of_getElem? tOver.2)⟩
  have hnat : nativeFrameWords "java/lang/System" "arraycopy" 5 ≤ 90 := by decide +kernel
  refine mm_law (sh := tSh) (tg := tTg) (aC := aC) (wn := tWn) (tb := tTb) (fin := tFin) (onm := tNm) (mp := tMp) (yM := tY) (bM := tB) (lM := tL) (rM := tR) (TW := tTW) (Ts := tTW) (bl := tBl) (oM := tO) (pM := tP) (tx := tTx0) (xs := fun j => (xs j.toNat).toInt) (pcs := p_law) (blks := b_law) (ow := 7) (d := 99) (g := g) (B := B) (nL := 4) (cc := code)
    tF tM (fun x => tSh_all (P := fun q => q.1 < 106) (by decide) tSh_7 x) tL_40 hnat htys tText (tGrid htys) hx hb hml hown tw (fun w h => h) hKA hstr ⟨by decide, by decide⟩ hX hbl hB (by omega) (fun j hj => by rw [Int.toNat_natCast]) v_law rfl (by decide) (fun pc H locs lsA n z hd hq hn hz => ?_) ?_
  · refine va_forget hq ?_
    exact W.widen hn hz (lw_ret hx hb hr hlk hd)
  · exact l_begin (by omega) (by omega) (fun j j1 j2 => InI_32 _)
set_option maxHeartbeats 4000000 in
theorem lw_walk (l : Launch) (hflags : l.flags = flags0) (b : Addr) (xs : List Int32) : MetFree l x (headSpec (Jvm.Cond.code x code maxLocals ret :: tables_1) room_1) (lw_P b xs) (fun _ _ _ _ _ => True) lw_Q := by
  refine MetFree.of_bodyS (code := code) (maxLocals := maxLocals) (ret := ret) (by decide) ?_ ?_
  · intro args s m h hn
    obtain ⟨meth, c, h1, h2, h3, h4, h5, h6, -, -⟩ := Cond.code_spec hn (atoms_spec (ws := Jvm.Cond.code x code maxLocals ret :: tables_1) h _ List.mem_cons_self)
    exact ⟨meth, c, h1, h2, h3, h4, h5, h6⟩
  · intro p e s m args below meth c s₁ B hml0 hP _
    obtain ⟨rfl, hx, hbd, hgv⟩ := hP
    obtain ⟨scr, harrAt, hlist, hof, hsmall⟩ := hx
    obtain ⟨hcb, hkn, -, -⟩ := State.arrayAt?_spec harrAt
    have hown : s.vm.findClass R_law = some m.cls := findClass_of_methodNamed B.named
    have hts0 : ∀ c ∈ (Jvm.Cond.code x code maxLocals ret :: tables_1), c.before #[Value.ref b] s = true := atoms_spec (ws := Jvm.Cond.code x code maxLocals ret :: tables_1) B.pre
    have hts : ∀ w ∈ lw_tbl, w.before #[Value.ref b] s = true := k2_hts_sels lw_privs (fun w hw => hts0 w (List.mem_cons_of_mem _ hw)) lw_privs_ok
    have hml : c.maxLocals = 4 := B.maxLocals_eq (hts0 _ List.mem_cons_self)
    have X₀ : Stand p l e room_1 s m #[Value.ref b] below meth c s₁ [] 0 0 := Stand.of_body B
    have hh0 : s₁.heap = s.heap := by rw [B.state]; rfl
    have hsz : scr.slots.size = xs.length := by rw [← Array.length_toList, hlist, List.length_map]
    have hval : ∀ j : Nat, j < xs.length → scr.slots[j]? = some (.int (xs.getD j 0)) := fun j hj => by
      rw [← Array.getElem?_toList, hlist]
      simp [hj]
    have hbl : b < s.heap.size := (Array.getElem?_eq_some_iff.mp hcb).1
    have hX : va_X b xs.length (fun j => xs.getD j 0) s s.heap := ⟨scr, hcb, hof, hkn, hsz, hval⟩
    have K : W p l e room_1 s m #[Value.ref b] below meth c s₁.heap [] 0 0 (lw_Z below #[Value.ref b] s) (entryFrame m ([Value.ref b] : List Value).toArray 4) := by
      rw [hh0]
      exact whole_start l hflags hbd ⟨B.exec, B.bytes, B.returns, hml, hown, hts, hX, hbl, B.notSynchronized, hgv⟩
    obtain ⟨t, a1, o, b1, b2, b3⟩ := K s₁ rfl X₀
    exact ⟨t, o, a1, b1, b2, b3⟩
theorem lw_pre_spec {args : Array Value} {s : State} (h : (Jvm.Cond.and given_1 narrow_1).before args s = true) (hr : rest_1_c.before args s = true) : ∃ (b : Addr) (xs : List Int32), lw_P b xs args s := by
  have hs := flat_of_before _ h
  have hq := flat_of_before _ hr
  have hc : (Cond.count 1).before args s = true := hs _ (by decide +kernel)
  have harr : (Cond.arrayOf (.arg 0) .int).before args s = true := hs _ (by decide +kernel)
  have hle : (Cond.le (.length (.arg 0)) (.int 3072)).before args s = true := hs _ (by decide +kernel)
  have hlen : (Cond.isInt (.length (.arg 0))).before args s = true := hq _ (by decide +kernel)
  have hall : (Cond.all (.arg 0) (.isInt (.elem (.arg 0) (.index 0)))).before args s = true := hq _ (by decide +kernel)
  obtain ⟨b, xs, hb, hx⟩ := State.ints_of_pre rfl harr hlen hall
  have hsm : xs.length < 2 ^ 31 := hx.choose_spec.2.2.2
  have hev : (Term.length (.arg 0)).eval args s none [] s = some (.int xs.length.toInt32) := hx.length_eval hb
  have hv := Cond.le_ints hev (show (Term.int 3072).eval args s none [] s = some (.int 3072) from rfl)
  have hd : xs.length.toInt32 ≤ 3072 := by
    simpa [Cond.before, Cond.holds, hv] using hle
  have hN : xs.length ≤ 3072 := (Int32.ofNat_le_ofNat hsm (by decide)).mp (show Int32.ofNat xs.length ≤ Int32.ofNat 3072 from hd)
  exact ⟨b, xs, Cond.one_arg hc (show args[0]? = some (.ref b) from hb), hx, hN, h⟩
theorem lw_comes (l : Launch) (hflags : l.flags = flags0) : Comes l x (Jvm.Cond.code x code maxLocals ret :: tables_1) room_1 (fun tb e args s => Calls_1 tb e args s ∧ rest_1 tb e args s ∧ Pre_1 tb e args s)
    (fun _ _ args s o t => lw_Q args s o t) := by
  intro p e ha hc hk s m args below hf hfit hheap happ hpre
  obtain ⟨b, xs, hP⟩ := lw_pre_spec hpre.2.2 hpre.2.1
  obtain ⟨k, o, h1, h2, h3, hQ⟩ := lw_walk l hflags b xs p e ha hc hk s m args below hf ((Spec.applies_iff_loose hf).mp happ).1 hP trivial
  exact ⟨k, o, h1, h2, h3, hQ⟩
theorem lw_frame {s t : State} {o : Outcome} {args : Array Value} (h : Framed s o t [] 600000 7302250) :
    Framed s o t (fieldLocs frame_1_writes args s ++ arrayLocs frame_1_arrays args s ++ staticLocs frame_1_statics s) 600000 7302250 := h
theorem lw_limb (L : Cond) (hL : ∀ (args : Array Value) (s t : State), L.after args s (.returned (some (.int 1))) t = true) :
    ArmFor flags0 classFile x code maxLocals ret World_1 tables_1 room_1 Calls_1 rest_1 Pre_1
      (fun tb e a s o t => postC L tb e a s o t ∧ Framed s o t (fieldLocs frame_1_writes a s ++ arrayLocs frame_1_arrays a s ++ staticLocs frame_1_statics s) 600000 7302250) := by
  intro l hflags _ _ p e ha hc hk s m args below hf hfit hheap happ hpre
  obtain ⟨k, o, h1, h2, h3, rfl, hF⟩ := lw_comes l hflags p e ha hc hk s m args below hf hfit hheap happ hpre
  exact ⟨k, _, h1, h2, h3, hL args s _, lw_frame hF⟩
theorem i_vc : Claimed_1_1 ∧ Claimed_1_2 := ⟨lw_limb limb_1_1 (fun args s t => by simp [limb_1_1, Cond.after, Cond.holds, Cond.value]), lw_limb limb_1_2 (fun args s t => Cond.after_iff.mpr (by
  first | (rw [show limb_1_2 = Cond.eq .result (.int 1) from rfl, Cond.eq_ints (x := 1) (y := 1) rfl rfl]; simp; done) | (simp [limb_1_2, Cond.value, Term.eval]; done)))⟩

