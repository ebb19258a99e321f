/-! ===== mm: a call, a return ===== -/
/-- a method's end: its value -/
def mmRv (B b g : Nat) (rt : Nat) (x : Int) : Option Value := if rt = 0 then none else some (mmVal B b g (mmRt rt, x))
/-- the tables' rows of rows: no words that are kept by themselves -/
def mmAO (U : State) : Prop := (Cond.arrayOver (.object "TileHeel$Roofs")).before #[] U = true ∧ (Cond.arrayOver (.array .int)).before #[] U = true
theorem mm_over_moved {ty : FieldType} {u U : State} (hvm : u.vm.Alike U.vm) (h : (Cond.arrayOver (.array ty)).before #[] u = true) : (Cond.arrayOver (.array ty)).before #[] U = true := by
  unfold Cond.before Cond.holds at h ⊢
  simp only [Cond.value, beq_iff_eq] at h ⊢
  obtain ⟨comp, hc, h2⟩ := Option.bind_eq_some_iff.mp h
  obtain ⟨c, hi, h3⟩ := Option.bind_eq_some_iff.mp h2
  obtain ⟨k, hk, hb⟩ := Option.map_eq_some_iff.mp h3
  obtain ⟨k', hk', he⟩ := hvm.2.2 _ _ hk
  have hi2 : (U.vm.classes.findIdx? fun (x : Class) => match x.kind with | .array component _ => component == comp | _ => false) = some c := by
    refine Eq.trans (va_idx_bare U.vm comp).symm ?_
    have hbe : U.vm.bare = u.vm.bare := by first | exact hvm.bare_eq | exact hvm.bare_eq.symm
    rw [hbe]
    exact (va_idx_bare u.vm comp).trans hi
  have hkd : k'.kind = k.kind := by rw [he]
  have hf : ∀ n, U.vm.findClass n = u.vm.findClass n := fun n => by rw [hvm.findClass]
  refine Option.bind_eq_some_iff.mpr ⟨comp, by rw [hf]; exact hc, Option.bind_eq_some_iff.mpr ⟨c, hi2, Option.map_eq_some_iff.mpr ⟨k', hk', ?_⟩⟩⟩
  rw [hkd, hf]
  exact hb
theorem mmAO.moved {u U : State} (hvm : u.vm.Alike U.vm) (h : mmAO u) : mmAO U := ⟨(va_AO.moved hvm (va_AO.of h.1)).use, mm_over_moved hvm h.2⟩
def mmKA (D : va_G) (cl : List vw_C) (tys : List (ClassId × FieldType)) (U : State) : Prop := va_K D cl tys U ∧ mmAO U
theorem mmKA.moved {D : va_G} {cl : List vw_C} {tys : List (ClassId × FieldType)} {u U : State} (hvm : u.vm.Alike U.vm) (h : mmKA D cl tys u) : mmKA D cl tys U := ⟨va_K.moved hvm h.1, h.2.moved hvm⟩
/-- the text constant and what its methods read: no cells that are written -/
def sTx : String := "owner lot of height tiles inn beds stork gap wide person weight leap climb heel at to toll bar when carry rain night or and not all min max "
def sByt : List (List Int32) := [[111, 119, 110, 101, 114, 32, 108, 111, 116, 32, 111, 102, 32, 104, 101, 105, 103, 104, 116, 32, 116, 105, 108, 101, 115, 32, 105, 110, 110, 32, 98, 101, 100, 115, 32, 115, 116, 111, 114, 107, 32, 103, 97, 112, 32, 119, 105, 100, 101, 32, 112, 101, 114, 115, 111, 110, 32, 119, 101, 105, 103, 104, 116, 32, 108, 101, 97, 112, 32, 99, 108, 105, 109, 98, 32, 104, 101, 101, 108, 32, 97, 116, 32, 116, 111, 32, 116, 111, 108, 108, 32, 98, 97, 114, 32, 119, 104, 101, 110, 32, 99, 97, 114, 114, 121, 32, 114, 97, 105, 110, 32, 110, 105, 103, 104, 116, 32, 111, 114, 32, 97, 110, 100, 32, 110, 111, 116, 32, 97, 108, 108, 32, 109, 105, 110, 32, 109, 97, 120, 32]]
def mmStr (B g : Nat) (U : State) : Prop := ∃ adV : Nat → Nat, (vk_S 1 [140] sByt (fun _ => g) adV (mmA B) U U.heap ∧ vk_R "TileHeel$TownText" 32 sTx g U) ∧ va_Z "java/lang/String" "COMPACT_STRINGS" "Z" (.int 1) (mmA B) U U.heap ∧ va_Zq "jdk/internal/util/Preconditions" "SIOOBE_FORMATTER" "Ljava/util/function/BiFunction;" (mmA B) U U.heap
theorem mmStr.moved {B g : Nat} {u U : State} (hW : u.WarmedH U.vm) (hq : ∀ q : Nat, q < u.heap.size → ¬ mmA B q → U.heap[q]? = u.heap[q]?) (h : mmStr B g u) : mmStr B g U := by
  obtain ⟨adV, ⟨h1, h2⟩, h3, h4⟩ := h
  exact ⟨adV, ⟨(vk_S.moved hW.alike h1).kept hq, vk_R.warm hW h2⟩, (va_Z.moved hW.alike h3).kept hq, (va_Zq.moved hW.alike h4).kept hq⟩
theorem mmStr.same {B g : Nat} {u U : State} (hv : U.vm = u.vm) (hh : U.heap = u.heap) (h : mmStr B g u) : mmStr B g U := by
  obtain ⟨adV, ⟨h1, h2⟩, h3, h4⟩ := h
  have ha : u.vm.Alike U.vm := by rw [hv]; exact Vm.Alike.refl u.vm
  have hq : ∀ q : Nat, q < u.heap.size → ¬ mmA B q → U.heap[q]? = u.heap[q]? := fun q _ _ => by rw [hh]
  exact ⟨adV, ⟨(vk_S.moved ha h1).kept hq, vk_R.same hv h2⟩, (va_Z.moved ha h3).kept hq, (va_Zq.moved ha h4).kept hq⟩
/-- the world at a method's start and end -/
def mmWd (sh : Int → Nat × Nat) (tg : Nat → Nat → Nat) (B b g : Nat) (aC : Nat → ClassId) (D : va_G) (cl : List vw_C) (tys : List (ClassId × FieldType)) (h : mmH) (U : State) : Prop :=
  va_P D cl (mmWs sh tg B b g aC h) U.heap ∧ U.heap.size = B + (h 0 0).toNat ∧ mmKA D cl tys U ∧ mmOkH sh tg h ∧ mmStr B g U
def mmAv (B b g : Nat) (ts : List Nat) (as : List Int) : List Value := (List.zip ts as).map (fun q => mmVal B b g q)
def mmQc (sh : Int → Nat × Nat) (tg : Nat → Nat → Nat) (B b g : Nat) (aC : Nat → ClassId) (D : va_G) (cl : List vw_C) (tys : List (ClassId × FieldType)) (rt mc ms : Nat) (h : mmH) (Q : Int → mmH → Prop) : Array Value → State → Outcome → State → Prop := fun _ st o t =>
  (∃ (x : Int) (h' : mmH), o = .returned (mmRv B b g rt x) ∧ Q x h' ∧ mmOk (h' 0 0) (mmRt rt, x) ∧ (h' 0 0 = h 0 0 + mc ∧ h' 0 1 = h 0 1 + ms) ∧ mmWd sh tg B b g aC D cl tys h' t) ∧ va_F (mmA B) st t
/-- a method's contract -/
def mmMet (sh : Int → Nat × Nat) (tg : Nat → Nat → Nat) (B b g : Nat) (aC : Nat → ClassId) (D : va_G) (cl : List vw_C) (tys : List (ClassId × FieldType)) (l : Launch) (y : MethodName) (ws : List Cond) (rm : Room) (ts : List Nat) (rt mc ms : Nat) (as : List Int) (h : mmH) (Q : Int → mmH → Prop) : Prop :=
  as.length = ts.length → (∀ q ∈ List.zip ts as, mmOk (h 0 0) q) → Met l y ws rm (va_Pc (mmAv B b g ts as) (mmWd sh tg B b g aC D cl tys h)) (mmQc sh tg B b g aC D cl tys rt mc ms h Q) mc ms (mmA B)
section MR5
variable {sh : Int → Nat × Nat} {tg : Nat → Nat → Nat} {B b g : Nat} {aC : Nat → ClassId} {p : Program} {l : Launch} {e : Env} {R : Room} {s : State} {m : MethodId} {args : Array Value} {below : List Frame} {meth : Method} {c : Code} {H0 : Heap} {D : va_G} {cl : List vw_C} {nL n0 z0 : Nat} {Qm : State → Prop}
variable {pc : Nat} {k : mmKont} {cc : ByteArray} {wn : Int → Bool} {tys : List (ClassId × FieldType)}
theorem mmPop_spec : ∀ (ts : List Nat) (st : List mmV) (acc as : List Int) (r : List mmV), mmPop ts st acc = some (as, r) → ∃ bs : List Int, as = bs.reverse ++ acc ∧ bs.length = ts.length ∧ st = List.zip ts bs ++ r
  | [], st, acc, as, r, h => by
    simp only [mmPop, Option.some.injEq, Prod.mk.injEq] at h
    exact ⟨[], by rw [h.1]; rfl, rfl, by rw [h.2]; rfl⟩
  | t :: ts, [], acc, as, r, h => by simp [mmPop] at h
  | t :: ts, v :: st, acc, as, r, h => by
    unfold mmPop at h
    cases e : Nat.beq v.1 t with
    | false => rw [e] at h; simp at h
    | true =>
      rw [e] at h
      simp only [cond_true] at h
      obtain ⟨bs, h1, h2, h3⟩ := mmPop_spec ts st (v.2 :: acc) as r h
      have ev : v.1 = t := mm_beq e
      refine ⟨v.2 :: bs, by rw [h1]; simp, by simp [h2], ?_⟩
      rw [h3, ← ev]
      rfl
theorem mm_zipR : ∀ (ts : List Nat) (bs : List Int), bs.length = ts.length → (List.zip ts bs).reverse = List.zip ts.reverse bs.reverse
  | [], bs, h => by simp
  | t :: ts, [], h => by simp at h
  | t :: ts, x :: bs, h => by
    have hl : bs.length = ts.length := by simpa using h
    rw [List.zip_cons_cons, List.reverse_cons, List.reverse_cons, List.reverse_cons, mm_zipR ts bs hl, List.zip_append (by simp [hl])]
    rfl
/-- what a call finds on the stack -/
theorem mm_args {ts : List Nat} {st r : List mmV} {as : List Int} {n : Int} (h : mmPop ts st [] = some (as, r)) (hs : ∀ v ∈ st, mmOk n v) :
    as.length = ts.reverse.length ∧ (∀ q ∈ List.zip ts.reverse as, mmOk n q) ∧ (∀ q ∈ r, mmOk n q) ∧ st.map (mmVal B b g) = (mmAv B b g ts.reverse as).reverse ++ r.map (mmVal B b g) := by
  obtain ⟨bs, h1, h2, h3⟩ := mmPop_spec ts st [] as r h
  rw [List.append_nil] at h1
  have e := mm_zipR ts bs h2
  rw [h1, ← e]
  refine ⟨by simp [h2], fun q hq => hs q (by rw [h3]; exact List.mem_append_left _ (List.mem_reverse.mp hq)), fun q hq => hs q (by rw [h3]; exact List.mem_append_right _ hq), ?_⟩
  rw [h3, List.map_append]
  congr 1
  unfold mmAv
  rw [← e, List.map_reverse, List.reverse_reverse]
theorem mm_blind {av : List Value} {h : mmH} : FrameBlind (va_Pc av (mmWd sh tg B b g aC D cl tys h)) := by
  intro a U gg mk q
  obtain ⟨q1, q2, q3, q4, q5, q6⟩ := q
  exact ⟨q1, q2, q3, mmKA.moved (u := U) (U := U.calling gg mk a) (Vm.Alike.refl U.vm) q4, q5, mmStr.same rfl rfl q6⟩
theorem mm_cat {r : List mmV} : ((r.map (mmVal B b g)).map fun v => v.category).sum = mmCat r := by
  induction r with
  | nil => rfl
  | cons v r ih =>
    rw [List.map_cons, List.map_cons, List.sum_cons, ih, mmVal_cat]
    show _ = (bif Nat.beq v.1 2 then 2 else 1) + mmCat r
    congr 1
    cases e : Nat.beq v.1 2 with
    | true => rw [if_pos (mm_beq e)]; rfl
    | false => rw [if_neg (fun q => by rw [q] at e; cases e)]; rfl
/-- behind a call: the caller goes on -/
theorem mm_after {y : Array Value} {rt mc ms : Nat} {h : mmH} {Q : Int → mmH → Prop} {H : Heap} {locs : List Loc} {ls st r : List mmV} {lsA : Array Slot} (hKx : va_K D cl tys s)
    (hrun : va_Run p l e R s m args below meth c H locs ((h 0 0).toNat - n0) ((h 0 1).toNat - z0) mc ms (F0 m pc lsA (st.map (mmVal B b g))) (r.map (mmVal B b g)) (mmQc sh tg B b g aC D cl tys rt mc ms h Q y) (mmA B))
    (hA : mmIn sh tg B b g aC R H0 D cl nL n0 z0 ls st h H locs lsA) (hr : ∀ q ∈ r, mmOk (h 0 0) q) (hcap : (h 0 0).toNat - n0 + mc ≤ R.cells ∧ (h 0 1).toNat - z0 + ms ≤ R.slots)
    (hQ : ∀ x h', Q x h' → k ls (mmPush (mmRt rt) x r) h') (hrt : rt = 0 ∨ mmRt rt ≠ 0) (hk : mmKS sh tg B b g aC p l e R s m args below meth c H0 D cl nL n0 z0 Qm (pc + 3) k) : W p l e R s m args below meth c H locs ((h 0 0).toNat - n0) ((h 0 1).toNat - z0) Qm (F0 m pc lsA (st.map (mmVal B b g))) := by
  intro T hT X
  obtain ⟨v, st₀, t, T', Lc, h0, X', hL, e1, e2, ⟨⟨x, h', hv, hq, hok, ⟨hn1, hn2⟩, w1, w2, w3, w4, -⟩, hz, hf⟩, stp⟩ := hrun T hT X
  have hv : v = mmRv B b g rt x := Outcome.returned.inj hv
  subst hv
  rw [h0] at hz hf
  have hW := hA.wh
  have hcnt := hA.2.2.2.2.2
  have hge : h 0 0 ≤ h' 0 0 := by omega
  have q1 := hW.2.2.2.1
  have q2 := hW.2.2.2.2.1
  have hst2 : ∀ q ∈ mmPush (mmRt rt) x r, mmOk (h' 0 0) q := by
    unfold mmPush
    cases Nat.beq (mmRt rt) 0 with
    | true => exact fun q hq => mmOk_mono (hr q hq) hge
    | false => exact mm_cons hok (fun q hq => mmOk_mono (hr q hq) hge)
  have hA2 : mmIn sh tg B b g aC R H0 D cl nL n0 z0 ls (mmPush (mmRt rt) x r) h' T'.heap (locs ++ Lc) lsA := by
    refine ⟨hA.1, hA.2.1, fun q hq => mmOk_mono (hA.2.2.1 q hq) hge, hst2, ⟨by rw [e1]; exact w1, by rw [e1]; exact w2, ?_, w4⟩, by omega, by omega, by omega, by omega⟩
    have hS := hW.2.2.1
    refine ⟨Nat.le_trans hS.1 (by rw [e1]; exact hz), fun q h1 h2 => ?_, fun q hq => ?_⟩
    · rw [e1, hf q (Nat.lt_of_lt_of_le h1 hS.1) h2]
      exact hS.2.1 q h1 h2
    · rcases List.mem_append.mp hq with h1 | h1
      · exact hS.2.2 q h1
      · exact hL q h1
  have key := hk ls _ h' T'.heap (locs ++ Lc) lsA (hQ x h' hq) hA2
  have en : (h' 0 0).toNat - n0 = (h 0 0).toNat - n0 + mc := by omega
  have ez : (h' 0 1).toNat - z0 = (h 0 1).toNat - z0 + ms := by omega
  rw [en, ez] at key
  obtain ⟨t2, a1, b1⟩ := key T' rfl X'
  refine ⟨t2, stp t2 ?_, b1⟩
  have es : (mmPush (mmRt rt) x r).map (mmVal B b g) = (mmRv B b g rt x).toList ++ r.map (mmVal B b g) := by
    unfold mmPush mmRv
    by_cases e0 : rt = 0
    · subst e0; rfl
    · rw [if_neg e0]
      have : Nat.beq (mmRt rt) 0 = false := by
        cases e : Nat.beq (mmRt rt) 0 with
        | false => rfl
        | true => exact absurd (mm_beq e) (hrt.resolve_left e0)
      rw [this]
      rfl
  rw [es] at a1
  exact a1
/-- the three kinds of call: 'static' 1, a constructor 2, a method of an object 0 -/
theorem ks_call (hx : p.tables.exec = Jvm.exec) (hb : c.code = cc) (hml : c.maxLocals = nL) {own : String} {Ts : List Cond} (hown : s.vm.findClass own = some m.cls) (hts : ∀ w ∈ Ts, w.before args s = true) (hKA : mmKA D cl tys s) (hstr : mmStr B g s ∧ H0 = s.heap) (hs0 : (sh 0).1 = 99)
    {mp : Nat → mmM} {K : Nat → List Int → mmH → (Int → mmH → Prop) → Prop} {mc ms : Int} {mi maxL index : Nat} {y : MethodName} {bytes : ByteArray} {ret : Option FieldType} {ws : List Cond} {rm : Room}
    (hmc : mc = (R.cells : Int)) (hms : ms = (R.slots : Int))
    (hmet : ∀ as h Q, K mi as h Q → mmMet sh tg B b g aC D cl tys l y ws rm (mp mi).1.reverse (mp mi).2.1 (mp mi).2.2.2.1 (mp mi).2.2.2.2.1 as h Q)
    (hrt : (mp mi).2.1 = 0 ∨ mmRt (mp mi).2.1 ≠ 0)
    (hd : (∃ C T N n, (mp mi).2.2.1 < 99 ∧ cl[(mp mi).2.2.1]? = some (C, T, N) ∧ (∀ x, (sh x).1 = (mp mi).2.2.1 → (sh x).2 = N) ∧ (∃ ts, (mp mi).1.reverse = 3 :: ts ∧ ts.length = n) ∧
          ((decode cc pc = .ok (.invokevirtual index, 3) ∧ CallW R s args own C index y bytes maxL ret ws rm (mp mi).2.2.2.1 (mp mi).2.2.2.2.1 n) ∨
           (decode cc pc = .ok (.invokespecial index, 3) ∧ ret = none ∧ CallB R s args own index y bytes maxL ret ws rm (mp mi).2.2.2.1 (mp mi).2.2.2.2.1 n ∧ y.name = "<init>" ∧ (Cond.instanceMethod y).before args s = true))) ∨
        ((mp mi).2.2.1 = 99 ∧ decode cc pc = .ok (.invokestatic index, 3) ∧ CallB R s args own index y bytes maxL ret ws rm (mp mi).2.2.2.1 (mp mi).2.2.2.2.1 (mp mi).1.length ∧ (Cond.static y).before args s = true))
    (hk : mmKS sh tg B b g aC p l e R s m args below meth c H0 D cl nL n0 z0 Qm (pc + 3) k) : mmKS sh tg B b g aC p l e R s m args below meth c H0 D cl nL n0 z0 Qm pc (oCall sh mp K n0 z0 mc ms mi k) := by
  have hKx := hKA.1
  intro ls st h H locs lsA hp hA
  unfold oCall at hp
  cases hpop : mmPop (mp mi).1 st [] with
  | none => rw [hpop] at hp; exact hp.elim
  | some q =>
    obtain ⟨as, r⟩ := q
    rw [hpop] at hp
    obtain ⟨hcat, hp⟩ := mmG_iff.mp hp
    obtain ⟨hrecv, hp⟩ := mmG_iff.mp hp
    obtain ⟨hbud, hK2⟩ := mmG_iff.mp hp
    obtain ⟨a1, a2, a3, a4⟩ := mm_args (B := B) (b := b) (g := g) hpop hA.okS
    have hcap : (h 0 0).toNat - n0 + (mp mi).2.2.2.1 ≤ R.cells ∧ (h 0 1).toNat - z0 + (mp mi).2.2.2.2.1 ≤ R.slots := by
      have hcnt := hA.2.2.2.2.2
      cases e : (Nat.beq (mp mi).2.2.2.1 0 && Nat.beq (mp mi).2.2.2.2.1 0) with
      | true =>
        simp only [Bool.and_eq_true] at e
        have e1 := mm_beq e.1
        have e2 := mm_beq e.2
        omega
      | false =>
        rw [e, Bool.false_or] at hbud
        have hbud := of_decide_eq_true hbud
        omega
    have hM := hmet as h _ hK2 a1 a2
    have hsize : lsA.size = nL := hA.1.1
    have hW := hA.wh
    have hcat' : 2 * (F0 m pc lsA (st.map (mmVal B b g))).monitorRoom + ((r.map (mmVal B b g)).map fun v => v.category).sum ≤ 8 := by
      show 2 * 0 + _ ≤ 8
      rw [mm_cat]
      have := mm_ble hcat
      simp only [] at this
      omega
    have hwd : ∀ U : State, U.heap = H → s.WarmedH U.vm → va_Pc (mmAv B b g (mp mi).1.reverse as) (mmWd sh tg B b g aC D cl tys h) (mmAv B b g (mp mi).1.reverse as).toArray U :=
      fun U hU hWm => ⟨rfl, by rw [hU]; exact hW.1, by rw [hU]; exact hW.2.1, mmKA.moved hWm.alike hKA, hW.2.2.2, mmStr.moved hWm (fun q z1 z2 => by rw [hU]; have z3 := hW.2.2.1.2.1 q; rw [hstr.2] at z3; exact z3 z1 z2) hstr.1⟩
    rcases hd with ⟨C, T, N, n, hci, hc, hshN, ⟨ts, hts3, htn⟩, hd⟩ | ⟨h99, hd, cw, hst⟩
    · have hne : ¬ (mp mi).2.2.1 = 99 := by omega
      have hb99 : Nat.beq (mp mi).2.2.1 99 = false := by
        cases e : Nat.beq (mp mi).2.2.1 99 with
        | false => rfl
        | true => exact absurd (mm_beq e) hne
      rw [hb99, Bool.false_or] at hrecv
      cases as with
      | nil => rw [hts3] at a1; simp at a1
      | cons x0 as' =>
        simp only [List.headD_cons] at hrecv
        have hrecv := mm_beq hrecv
        have hok0 : mmOk (h 0 0) (3, x0) := a2 _ (by rw [hts3, List.zip_cons_cons]; exact List.mem_cons_self)
        obtain ⟨g1, g2, g3⟩ := mm_pos (B := B) (b := b) (g := g) hs0 hok0 hrecv hne
        have he := mmWs_get sh tg B b g aC g1 g2
        rw [mmE_o hrecv hci (hshN x0 hrecv)] at he
        have hav : mmAv B b g (mp mi).1.reverse (x0 :: as') = .ref (B + x0.toNat) :: mmAv B b g ts as' := by
          rw [hts3]
          show (mmVal B b g (3, x0)) :: _ = _
          rw [g3]
          rfl
        have hlen : (mmAv B b g ts as').length = n := by
          rw [hts3] at a1
          have : as'.length = ts.length := by simpa using a1
          unfold mmAv
          rw [List.length_map, List.length_zip, this, Nat.min_self, htn]
        rw [hav] at hM hwd a4
        rw [List.reverse_cons, List.append_assoc] at a4
        have hstk : st.map (mmVal B b g) = (mmAv B b g ts as').reverse ++ .ref (B + x0.toNat) :: r.map (mmVal B b g) := a4
        rcases hd with ⟨hd, cw⟩ | ⟨hd, rfl, cw⟩
        · refine mm_after (rt := (mp mi).2.1) hKx (va_runV (As := mmAv B b g ts as') (rest := r.map (mmVal B b g)) (b := B + x0.toNat) ⟨hx, hb, hml, hown, hts⟩ hM cw ⟨mm_blind, va_recv hKx hW.1 hc he, hwd⟩ rfl hlen hsize hstk hcat' hd hcap) hA a3 hcap (fun x h' q => q) hrt hk
        · refine mm_after (rt := (mp mi).2.1) hKx (va_runI (As := mmAv B b g ts as') (rest := r.map (mmVal B b g)) (b := B + x0.toNat) ⟨hx, hb, hml, hown, hts⟩ hM cw ⟨mm_blind, hwd⟩ rfl hlen hsize hstk hcat' hd hcap) hA a3 hcap (fun x h' q => q) hrt hk
    · have hlen : (mmAv B b g (mp mi).1.reverse as).length = (mp mi).1.length := by
        unfold mmAv
        rw [List.length_map, List.length_zip, a1, Nat.min_self, List.length_reverse]
      refine mm_after (rt := (mp mi).2.1) hKx (va_runS (As := mmAv B b g (mp mi).1.reverse as) (rest := r.map (mmVal B b g)) ⟨hx, hb, hml, hown, hts⟩ hM ⟨cw, hst⟩ ⟨mm_blind, hwd⟩ rfl hlen hsize a4 hcat' hd hcap) hA a3 hcap (fun x h' q => q) hrt hk
theorem ks_obj (hx : p.tables.exec = Jvm.exec) (hb : c.code = cc) (hml : c.maxLocals = nL) {own : String} {idx : Nat} (hown : s.vm.findClass own = some m.cls) (hlink : (Cond.methodLink own idx Lib.objectInit).before args s = true) (hinst : (Cond.instanceMethod Lib.objectInit).before args s = true) (hcode : (Cond.code Lib.objectInit ⟨#[0xb1]⟩ 1 none).before args s = true)
    (hR : 1 ≤ R.frames ∧ 20 ≤ R.locals) (hd : decode cc pc = .ok (.invokespecial idx, 3)) (hk : mmKS sh tg B b g aC p l e R s m args below meth c H0 D cl nL n0 z0 Qm (pc + 3) k) : mmKS sh tg B b g aC p l e R s m args below meth c H0 D cl nL n0 z0 Qm pc (oObj k) := by
  intro ls st h H locs lsA hp hA
  match st, hp, hA with
  | ⟨t, x⟩ :: r, hp, hA =>
    obtain ⟨ht, hp⟩ := mmG_iff.mp hp
    obtain ⟨h1, hp2⟩ := mmD_iff.mp hp
    simp only [Bool.and_eq_true] at ht
    have e1 : t = 3 := mm_beq ht.1
    subst e1
    have hs := hA.okS
    have h1' : ¬ x = 0 := h1
    have hv : mmVal B b g (3, x) = .ref (B + x.toNat) := by simp only [mmVal, h1', if_false]
    rw [List.map_cons, hv]
    have hcat := mm_ble ht.2
    refine W.objInit hx hb hown hlink hinst hcode rfl (by rw [hml]; exact hA.1.1) rfl hd hR.1 ?_ (hk ls _ h H locs lsA hp2 (hA.stk (mm_tail hs)))
    show 2 * 0 + _ + 12 ≤ _
    rw [mm_cat]
    omega
end MR5
