/-! ===== mm: a checked op is sound ===== -/
/-- what the tables' words say -/
def mmFT (sh : Int → Nat × Nat) (tg : Nat → Nat → Nat) (tb : mmT) (fin : Nat → Nat → Bool) (onm : Nat → String) (cl : List vw_C) (mp : Nat → mmM) (yM : Nat → MethodName) (bM : Nat → ByteArray) (lM : Nat → Nat) (rM : Nat → Option FieldType) (TW : List Cond) : Prop :=
  (∀ w ∈ TW, goodWord w = true) ∧
  (∀ ci C T N, cl[ci]? = some (C, T, N) → onm ci = C ∧ (∀ w ∈ u_ws C T N, w ∈ TW) ∧ (∀ x, (sh x).1 = ci → (sh x).2 = N) ∧ (∃ ty : Nat → FieldType, (∀ k, k < N → parseFieldDescriptor (T k).2.2.1 = some (ty k)) ∧ ∀ f, f < N → tg ci f = mmTy (ty f) ∧ tg ci f ≠ 0) ∧ (∀ a, a < N → ∀ b, b < N → a ≠ b → (T a).2.1 ≠ (T b).2.1)) ∧
  (∀ ow idx ci f, (ow, idx, ci, f) ∈ tb.1 → ∃ C T N, cl[ci]? = some (C, T, N) ∧ ci < 99 ∧ f < N ∧ Cond.fieldLink (onm ow) idx (T f).1 (T f).2.1 (T f).2.2.1 ∈ TW ∧ (T f).2.2.2 = fin ci f ∧ (T f).1 = C) ∧
  (∀ ow idx mi kd, (ow, idx, mi, kd) ∈ tb.2.1 → Cond.methodLink (onm ow) idx (yM mi) ∈ TW ∧ Cond.code (yM mi) (bM mi) (lM mi) (rM mi) ∈ TW ∧ Cond.initialized (yM mi).cls ∈ TW ∧ ((yM mi).cls ≠ "java/lang/invoke/MethodHandle" ∧ (yM mi).cls ≠ "java/lang/invoke/VarHandle") ∧ ((mp mi).2.1 = 0 ∨ mmRt (mp mi).2.1 ≠ 0) ∧
    ((kd = 1 ∧ (mp mi).2.2.1 = 99 ∧ Cond.static (yM mi) ∈ TW ∧ (parseMethodDescriptor (yM mi).desc).map (fun d => d.parameters.length) = some (mp mi).1.length) ∨
     ((kd = 0 ∨ kd = 2) ∧ (mp mi).2.2.1 < 99 ∧ (∃ T N, cl[(mp mi).2.2.1]? = some ((yM mi).cls, T, N)) ∧ (∃ ts, (mp mi).1.reverse = 3 :: ts ∧ (parseMethodDescriptor (yM mi).desc).map (fun d => d.parameters.length) = some ts.length) ∧ Cond.instanceMethod (yM mi) ∈ TW ∧ (kd = 0 → Cond.selects (yM mi).cls (yM mi) (yM mi) ∈ TW) ∧ (kd = 2 → (yM mi).name = "<init>" ∧ rM mi = none)))) ∧
  (∀ ow idx x, (ow, idx, x) ∈ tb.2.2.1 → Jvm.Cond.constant (onm ow) idx (Int32.ofInt x) ∈ TW) ∧
  (∀ ow idx x, (ow, idx, x) ∈ tb.2.2.2.1 → Jvm.Cond.constantLong (onm ow) idx (Int64.ofInt x) ∈ TW) ∧
  (∀ ow idx ci, (ow, idx, ci) ∈ tb.2.2.2.2.1 → ∃ C T N, cl[ci]? = some (C, T, N) ∧ ci < 99 ∧ Cond.classLink (onm ow) idx C ∈ TW ∧ Cond.instantiable C N ∈ TW ∧ Cond.initialized C ∈ TW) ∧
  (∀ ow idx, (ow, idx) ∈ tb.2.2.2.2.2.1 → Cond.methodLink (onm ow) idx Lib.objectInit ∈ TW ∧ Cond.instanceMethod Lib.objectInit ∈ TW ∧ Cond.code Lib.objectInit ⟨#[0xb1]⟩ 1 none ∈ TW) ∧
  (∀ ow idx, (ow, idx) ∈ tb.2.2.2.2.2.2.1 → Cond.methodLink (onm ow) idx arraycopyName ∈ TW ∧ Cond.native arraycopyName ∈ TW ∧ Cond.static arraycopyName ∈ TW ∧ Cond.initialized "java/lang/System" ∈ TW) ∧
  (∀ ow idx, (ow, idx) ∈ tb.2.2.2.2.2.2.2.1 → Cond.classLink (onm ow) idx "TileHeel$Roofs" ∈ TW) ∧
  (∀ kd, kd < 4 → Cond.arrayClass (mmKt kd) ∈ TW) ∧ (sh 0).1 = 99 ∧ (∃ T N, cl[4]? = some ("TileHeel$Roofs", T, N))
section MS1
variable {sh : Int → Nat × Nat} {tg : Nat → Nat → Nat} {B b g : Nat} {aC : Nat → ClassId} {p : Program} {l : Launch} {e : Env} {R : Room} {s : State} {m : MethodId} {args : Array Value} {below : List Frame} {meth : Method} {c : Code} {H0 : Heap} {D : va_G} {cl : List vw_C} {nL n0 z0 : Nat} {Qm : State → Prop}
variable {cc : ByteArray} {tys : List (ClassId × FieldType)} {wn : Int → Bool} {tb : mmT} {fin : Nat → Nat → Bool} {onm : Nat → String} {mp : Nat → mmM} {yM : Nat → MethodName} {bM : Nat → ByteArray} {lM : Nat → Nat} {rM : Nat → Option FieldType} {TW Ts : List Cond}
variable {K : Nat → List Int → mmH → (Int → mmH → Prop) → Prop} {Q : Int → mmH → Prop} {X : Nat → mmKont} {mc ms L : Int} {xs : Int → Int} {tx : List Int} {k : mmKont}
/-- the method at hand: the machine, its words, the numbers of rows -/
def mmCx (nm : String) (sc : Bool) (ow rt : Nat) (aC : Nat → ClassId) (p : Program) (l : Launch) (R : Room) (s : State) (m : MethodId) (args : Array Value) (meth : Method) (c : Code) (D : va_G) (cl : List vw_C) (nL B b : Nat) (cc : ByteArray) (tys : List (ClassId × FieldType)) (onm : Nat → String) (TW Ts : List Cond) (mc ms L : Int) (xs : Int → Int) (H0 : Heap) (sh : Int → Nat × Nat) (g : Nat) : Prop :=
  p.tables.exec = Jvm.exec ∧ c.code = cc ∧ c.maxLocals = nL ∧ s.vm.findClass (onm ow) = some m.cls ∧ (∀ w ∈ Ts, w.before args s = true) ∧ (∀ w ∈ TW, w ∈ Ts) ∧ mmKA D cl tys s ∧ (∀ kd, kd < 6 → tys[kd]? = some (aC kd, mmKt kd)) ∧ mc = (R.cells : Int) ∧ ms = (R.slots : Int) ∧ (1 ≤ R.frames ∧ 8 + (nativeFrameWords "java/lang/System" "arraycopy" 5 + 11) ≤ R.locals ∧ 20 ≤ R.locals) ∧
  meth.name = nm ∧ (sc = true → ∃ (Ln : Nat) (xs' : Nat → Int32), va_X b Ln xs' s H0 ∧ b < H0.size ∧ b ≤ B ∧ L = (Ln : Int) ∧ Ln < 2147483648 ∧ ∀ j : Nat, j < Ln → xs j = (xs' j).toInt) ∧ (∀ x, (sh x).1 < 106) ∧ (mmStr B g s ∧ H0 = s.heap)
theorem mm_good (hG : ∀ w ∈ TW, goodWord w = true) (hT : ∀ w ∈ TW, w ∈ Ts) {x : Cond} (hx : x ∈ TW) : GoodIn Ts (x :: TW) := fun w hw => by
  rcases List.mem_cons.mp hw with q | q
  · rw [q]; exact ⟨hT x hx, good_of_word (hG x hx)⟩
  · exact ⟨hT w q, good_of_word (hG w q)⟩
theorem mm_ty : ∀ kd : Nat, kd < 4 → newarray.typeOf (mmAty kd) = mmKt kd
  | 0, _ => rfl
  | 1, _ => rfl
  | 2, _ => rfl
  | 3, _ => rfl
set_option maxHeartbeats 4000000 in
theorem ks_op {ow rt pc : Nat} {isInit sc : Bool} {nm : String} {pcs : List Nat} {op : mmOp} {q : Instr × Nat} {rmM : Nat → Room} (hF : mmFT sh tg tb fin onm cl mp yM bM lM rM TW) (hC : mmCx nm sc ow rt aC p l R s m args meth c D cl nL B b cc tys onm TW Ts mc ms L xs H0 sh g) (hinit : isInit = true → nm = "<init>")
    (hKs : ∀ mi as h Qc, K mi as h Qc → mmMet sh tg B b g aC D cl tys l (yM mi) (.code (yM mi) (bM mi) (lM mi) (rM mi) :: TW) (rmM mi) (mp mi).1.reverse (mp mi).2.1 (mp mi).2.2.2.1 (mp mi).2.2.2.2.1 as h Qc)
    (hroom : ∀ mi, (rmM mi).cells = (mp mi).2.2.2.1 ∧ (rmM mi).slots = (mp mi).2.2.2.2.1 ∧ (rmM mi).frames + 1 ≤ R.frames ∧ 8 + (lM mi + 11) + (rmM mi).locals ≤ R.locals)
    (hret : ∀ (pc' : Nat), (rt = 0 ∧ decode cc pc' = .ok (.return_, 1)) ∨ (rt = 1 ∧ decode cc pc' = .ok (.ireturn, 1)) ∨ (rt = 2 ∧ decode cc pc' = .ok (.lreturn, 1)) ∨ (rt = 3 ∧ decode cc pc' = .ok (.areturn, 1)) ∨ (rt = 4 ∧ decode cc pc' = .ok (.ireturn, 1)) → mmKS sh tg B b g aC p l e R s m args below meth c H0 D cl nL n0 z0 Qm pc' (oRet Q rt))
    (htext : ∀ (pc' idx : Nat) (k' : mmKont), ((ow, 8 * idx) ∈ tb.2.2.2.2.2.2.2.2.2 → decode cc pc' = .ok (.ldc idx, 2) → mmKS sh tg B b g aC p l e R s m args below meth c H0 D cl nL n0 z0 Qm (pc' + 2) k' → mmKS sh tg B b g aC p l e R s m args below meth c H0 D cl nL n0 z0 Qm pc' (oPush 5 0 k')) ∧ ((ow, 8 * idx + 1) ∈ tb.2.2.2.2.2.2.2.2.2 → decode cc pc' = .ok (.invokevirtual idx, 3) → mmKS sh tg B b g aC p l e R s m args below meth c H0 D cl nL n0 z0 Qm (pc' + 3) k' → mmKS sh tg B b g aC p l e R s m args below meth c H0 D cl nL n0 z0 Qm pc' (oTlen tx k')) ∧ ((ow, 8 * idx + 2) ∈ tb.2.2.2.2.2.2.2.2.2 → decode cc pc' = .ok (.invokevirtual idx, 3) → mmKS sh tg B b g aC p l e R s m args below meth c H0 D cl nL n0 z0 Qm (pc' + 3) k' → mmKS sh tg B b g aC p l e R s m args below meth c H0 D cl nL n0 z0 Qm pc' (oTat tx k')) ∧ ∀ f : Nat, f < 5 → (ow, 8 * idx + 3 + f) ∈ tb.2.2.2.2.2.2.2.2.2 → decode cc pc' = .ok (.invokestatic idx, 3) → mmKS sh tg B b g aC p l e R s m args below meth c H0 D cl nL n0 z0 Qm (pc' + 3) k' → mmKS sh tg B b g aC p l e R s m args below meth c H0 D cl nL n0 z0 Qm pc' (oMath f k'))
    (hgrid : ∀ (pc' idx : Nat) (k' : mmKont), (ow, idx) ∈ tb.2.2.2.2.2.2.2.2.1 → decode cc pc' = .ok (.multianewarray idx 2, 4) → mmKS sh tg B b g aC p l e R s m args below meth c H0 D cl nL n0 z0 Qm (pc' + 4) k' → mmKS sh tg B b g aC p l e R s m args below meth c H0 D cl nL n0 z0 Qm pc' (oNewM sh n0 z0 mc ms k'))
    (hX : ∀ bl : Nat, mmKS sh tg B b g aC p l e R s m args below meth c H0 D cl nL n0 z0 Qm (pcs.getD bl 0) (X bl)) (hd : decode cc pc = .ok q) (hq : q ∈ mmCand tb fin ow isInit sc rt pcs pc op) (hk : mmEnds op = false → mmKS sh tg B b g aC p l e R s m args below meth c H0 D cl nL n0 z0 Qm (pc + q.2) k) :
    mmKS sh tg B b g aC p l e R s m args below meth c H0 D cl nL n0 z0 Qm pc (mmStep sh tg (fun _ _ => none) wn mp K Q X n0 z0 mc ms L xs tx op.1 op.2.1 op.2.2 k) := by
  obtain ⟨F1, F2, F3, F4, F5, F6, F7, F8, F9, F10, F11, F12, F13⟩ := hF
  obtain ⟨hx, hb, hml, hown, hts, hTW, hKA, htys, hmc, hms, ⟨hR1, hR2, hR3⟩, hnm, hsc, hsh6, hstr⟩ := hC
  have hKx := hKA.1
  have tw : ∀ w ∈ TW, w.before args s = true := fun w hw => hts w (hTW w hw)
  obtain ⟨o, a, li⟩ := op
  simp only [] at *
  match o, hq, hk with
  | 0, hq, hk =>
    have hk := hk rfl
    show mmKS sh tg B b g aC p l e R s m args below meth c H0 D cl nL n0 z0 Qm pc (oPush a.toNat (li.headD 0) k)
    simp only [mmCand] at hq
    generalize hn : a.toNat = n at hq ⊢
    match n, hq with
    | 1, hq =>
      simp only [List.mem_append] at hq
      rcases hq with hq | hq | hq | hq | hq
      · obtain ⟨q1, rfl⟩ := mmB1_in hq
        simp only [Bool.and_eq_true, mmR32, decide_eq_true_eq] at q1
        exact ks_push1 hx hb q1.1 (Or.inl ⟨hd, rfl, rfl⟩) hk
      · obtain ⟨q1, rfl⟩ := mmB1_in hq
        simp only [Bool.and_eq_true, mmR32, decide_eq_true_eq] at q1
        exact ks_push1 hx hb q1.1 (Or.inr (Or.inl ⟨hd, rfl, q1.2⟩)) hk
      · obtain ⟨q1, rfl⟩ := mmB1_in hq
        simp only [Bool.and_eq_true, mmR32, decide_eq_true_eq] at q1
        exact ks_push1 hx hb q1.1 (Or.inr (Or.inr ⟨hd, rfl, q1.2⟩)) hk
      · obtain ⟨q1, rfl⟩ := mmB1_in hq
        simp only [Bool.and_eq_true, mmR32, decide_eq_true_eq] at q1
        exact ks_ldc hx hb q1.1 hown (tw _ (F5 _ _ _ q1.2)) hd hk
      · obtain ⟨q1, rfl⟩ := mmB1_in hq
        simp only [Bool.and_eq_true, mmR32, decide_eq_true_eq] at q1
        exact ks_ldcw hx hb q1.1 hown (tw _ (F5 _ _ _ q1.2)) hd hk
    | 2, hq =>
      simp only [List.mem_append] at hq
      rcases hq with hq | hq | hq
      · obtain ⟨q1, rfl⟩ := mmB1_in hq
        exact ks_lconst hx hb (i := 0) (of_decide_eq_true q1) hd hk
      · obtain ⟨q1, rfl⟩ := mmB1_in hq
        exact ks_lconst hx hb (i := 1) (of_decide_eq_true q1) hd hk
      · obtain ⟨q1, rfl⟩ := mmB1_in hq
        simp only [Bool.and_eq_true, mmR64, decide_eq_true_eq] at q1
        exact ks_ldc2 hx hb q1.1 hown (tw _ (F6 _ _ _ q1.2)) hd hk
    | 5, hq =>
      obtain ⟨q1, rfl⟩ := mmB1_in hq
      simp only [Bool.and_eq_true, decide_eq_true_eq] at q1
      rw [q1.1]
      exact (htext _ _ _).1 q1.2 hd hk
    | 0, hq => cases hq
    | 3, hq => cases hq
    | 4, hq => cases hq
    | n + 6, hq => cases hq
  | 1, hq, hk =>
    have hk := hk rfl
    show mmKS sh tg B b g aC p l e R s m args below meth c H0 D cl nL n0 z0 Qm pc (oLoad a.toNat (li.headD 0).toNat k)
    simp only [mmCand] at hq
    generalize hn : (li.headD 0).toNat = t at hq ⊢
    match t, hq with
    | 1, hq =>
      rcases List.mem_append.mp hq with hq | hq
      · obtain ⟨q1, rfl⟩ := mmB1_in hq
        exact ks_load hx hb (Or.inl ⟨rfl, Or.inl ⟨_, hd, mmF4_v (mm_blt q1), rfl⟩⟩) hk
      · obtain rfl := List.mem_singleton.mp hq
        exact ks_load hx hb (Or.inl ⟨rfl, Or.inr ⟨hd, rfl⟩⟩) hk
    | 2, hq =>
      rcases List.mem_append.mp hq with hq | hq
      · obtain ⟨q1, rfl⟩ := mmB1_in hq
        exact ks_load hx hb (Or.inr ⟨rfl, Or.inl ⟨_, hd, mmF4_v (mm_blt q1), rfl⟩⟩) hk
      · obtain rfl := List.mem_singleton.mp hq
        exact ks_load hx hb (Or.inr ⟨rfl, Or.inr ⟨hd, rfl⟩⟩) hk
    | 3, hq =>
      rcases List.mem_append.mp hq with hq | hq
      · obtain ⟨q1, rfl⟩ := mmB1_in hq
        exact ks_aload hx hb (Or.inl rfl) (Or.inl ⟨_, hd, mmF4_v (mm_blt q1), rfl⟩) hk
      · obtain rfl := List.mem_singleton.mp hq
        exact ks_aload hx hb (Or.inl rfl) (Or.inr ⟨hd, rfl⟩) hk
    | 4, hq =>
      rcases List.mem_append.mp hq with hq | hq
      · obtain ⟨q1, rfl⟩ := mmB1_in hq
        exact ks_aload hx hb (Or.inr (Or.inl rfl)) (Or.inl ⟨_, hd, mmF4_v (mm_blt q1), rfl⟩) hk
      · obtain rfl := List.mem_singleton.mp hq
        exact ks_aload hx hb (Or.inr (Or.inl rfl)) (Or.inr ⟨hd, rfl⟩) hk
    | 0, hq => cases hq
    | n + 5, hq => cases hq
  | 2, hq, hk =>
    have hk := hk rfl
    show mmKS sh tg B b g aC p l e R s m args below meth c H0 D cl nL n0 z0 Qm pc (oStore a.toNat (li.headD 0).toNat k)
    simp only [mmCand] at hq
    generalize hn : (li.headD 0).toNat = t at hq ⊢
    match t, hq with
    | 1, hq =>
      rcases List.mem_append.mp hq with hq | hq
      · obtain ⟨q1, rfl⟩ := mmB1_in hq
        exact ks_istore hx hb (Or.inl ⟨_, hd, mmF4_v (mm_blt q1), rfl⟩) hk
      · obtain rfl := List.mem_singleton.mp hq
        exact ks_istore hx hb (Or.inr ⟨hd, rfl⟩) hk
    | 2, hq =>
      rcases List.mem_append.mp hq with hq | hq
      · obtain ⟨q1, rfl⟩ := mmB1_in hq
        exact ks_lstore hx hb (Or.inl ⟨_, hd, mmF4_v (mm_blt q1), rfl⟩) hk
      · obtain rfl := List.mem_singleton.mp hq
        exact ks_lstore hx hb (Or.inr ⟨hd, rfl⟩) hk
    | 3, hq =>
      rcases List.mem_append.mp hq with hq | hq
      · obtain ⟨q1, rfl⟩ := mmB1_in hq
        exact ks_astore hx hb (Or.inl ⟨_, hd, mmF4_v (mm_blt q1), rfl⟩) hk
      · obtain rfl := List.mem_singleton.mp hq
        exact ks_astore hx hb (Or.inr ⟨hd, rfl⟩) hk
    | 0, hq => cases hq
    | n + 4, hq => cases hq
  | 3, hq, hk =>
    obtain rfl := List.mem_singleton.mp hq
    exact ks_iinc hx hb hd (hk rfl)
  | 4, hq, hk =>
    have hk := hk rfl
    show mmKS sh tg B b g aC p l e R s m args below meth c H0 D cl nL n0 z0 Qm pc (oI2 a.toNat k)
    simp only [mmCand] at hq
    obtain ⟨q1, rfl⟩ := mmB1_in hq
    have q2 := mm_blt q1
    generalize hn : a.toNat = n at q2 hd hk ⊢
    match n, q2, hd, hk with
    | 0, _, hd, hk => exact ks_int hx hb (Or.inl ⟨rfl, hd⟩) hk
    | 1, _, hd, hk => exact ks_int hx hb (Or.inr (Or.inl ⟨rfl, hd⟩)) hk
    | 2, _, hd, hk => exact ks_int hx hb (Or.inr (Or.inr (Or.inl ⟨rfl, hd⟩))) hk
    | 3, _, hd, hk => exact ks_int hx hb (Or.inr (Or.inr (Or.inr (Or.inl ⟨rfl, hd⟩)))) hk
    | 4, _, hd, hk => exact ks_int hx hb (Or.inr (Or.inr (Or.inr (Or.inr (Or.inl ⟨rfl, hd⟩))))) hk
    | 5, _, hd, hk => exact ks_int hx hb (Or.inr (Or.inr (Or.inr (Or.inr (Or.inr (Or.inl ⟨rfl, hd⟩)))))) hk
    | 6, _, hd, hk => exact ks_int hx hb (Or.inr (Or.inr (Or.inr (Or.inr (Or.inr (Or.inr (Or.inl ⟨rfl, hd⟩))))))) hk
    | 7, _, hd, hk => exact ks_int hx hb (Or.inr (Or.inr (Or.inr (Or.inr (Or.inr (Or.inr (Or.inr (Or.inl ⟨rfl, hd⟩)))))))) hk
    | 8, _, hd, hk => exact ks_int hx hb (Or.inr (Or.inr (Or.inr (Or.inr (Or.inr (Or.inr (Or.inr (Or.inr ⟨rfl, hd⟩)))))))) hk
  | 5, hq, hk =>
    have hk := hk rfl
    show mmKS sh tg B b g aC p l e R s m args below meth c H0 D cl nL n0 z0 Qm pc (oL2 a.toNat k)
    simp only [mmCand] at hq
    obtain ⟨q1, rfl⟩ := mmB1_in hq
    have q2 := mm_blt q1
    generalize hn : a.toNat = n at q2 hd hk ⊢
    match n, q2, hd, hk with
    | 0, _, hd, hk => exact ks_long hx hb (Or.inl ⟨rfl, hd⟩) hk
    | 1, _, hd, hk => exact ks_long hx hb (Or.inr (Or.inl ⟨rfl, hd⟩)) hk
    | 2, _, hd, hk => exact ks_long hx hb (Or.inr (Or.inr (Or.inl ⟨rfl, hd⟩))) hk
    | 3, _, hd, hk => exact ks_long hx hb (Or.inr (Or.inr (Or.inr (Or.inl ⟨rfl, hd⟩)))) hk
    | 4, _, hd, hk => exact ks_long hx hb (Or.inr (Or.inr (Or.inr (Or.inr (Or.inl ⟨rfl, hd⟩))))) hk
    | 5, _, hd, hk => exact ks_long hx hb (Or.inr (Or.inr (Or.inr (Or.inr (Or.inr ⟨rfl, hd⟩))))) hk
  | 6, hq, hk =>
    have hk := hk rfl
    show mmKS sh tg B b g aC p l e R s m args below meth c H0 D cl nL n0 z0 Qm pc (oDv a.toNat k)
    simp only [mmCand] at hq
    obtain ⟨q1, rfl⟩ := mmB1_in hq
    have q2 := mm_blt q1
    generalize hn : a.toNat = n at q2 hd hk ⊢
    match n, q2, hd, hk with
    | 0, _, hd, hk => exact ks_div hx hb (Or.inl ⟨rfl, hd⟩) hk
    | 1, _, hd, hk => exact ks_div hx hb (Or.inr (Or.inl ⟨rfl, hd⟩)) hk
    | 2, _, hd, hk => exact ks_div hx hb (Or.inr (Or.inr (Or.inl ⟨rfl, hd⟩))) hk
    | 3, _, hd, hk => exact ks_div hx hb (Or.inr (Or.inr (Or.inr ⟨rfl, hd⟩))) hk
  | 7, hq, hk =>
    have hk := hk rfl
    show mmKS sh tg B b g aC p l e R s m args below meth c H0 D cl nL n0 z0 Qm pc (oCv a.toNat k)
    simp only [mmCand] at hq
    generalize hn : a.toNat = n at hq ⊢
    match n, hq with
    | 0, hq =>
      obtain rfl := List.mem_singleton.mp hq
      exact ks_cv hx hb (Or.inl ⟨rfl, hd⟩) hk
    | 1, hq =>
      obtain rfl := List.mem_singleton.mp hq
      exact ks_cv hx hb (Or.inr ⟨rfl, hd⟩) hk
    | n + 2, hq => cases hq
  | 8, hq, hk =>
    obtain rfl := List.mem_singleton.mp hq
    exact ks_lcmp hx hb hd (hk rfl)
  | 9, hq, hk =>
    have hk := hk rfl
    show mmKS sh tg B b g aC p l e R s m args below meth c H0 D cl nL n0 z0 Qm pc (oStk a.toNat k)
    simp only [mmCand] at hq
    obtain ⟨q1, rfl⟩ := mmB1_in hq
    have q2 := mm_blt q1
    generalize hn : a.toNat = n at q2 hd hk ⊢
    match n, q2, hd, hk with
    | 0, _, hd, hk => exact ks_stk hx hb (Or.inl ⟨rfl, hd⟩) hk
    | 1, _, hd, hk => exact ks_stk hx hb (Or.inr (Or.inl ⟨rfl, hd⟩)) hk
    | 2, _, hd, hk => exact ks_stk hx hb (Or.inr (Or.inr ⟨rfl, hd⟩)) hk
  | 10, hq, hk =>
    obtain ⟨q1, rfl⟩ := mmB1_in hq
    obtain ⟨C, T, N, f1, f2, f3, f4, f5, f6⟩ := F3 _ _ _ _ (of_decide_eq_true q1)
    obtain ⟨e1, e2, e3, e4, e5⟩ := F2 _ _ _ _ f1
    exact ks_get hx hb hts (fun w hw => hTW w (e2 w hw)) hown hKx f1 f2 e3 F12 f3 (tw _ f4) hd (hk rfl)
  | 11, hq, hk =>
    obtain ⟨q1, rfl⟩ := mmB1_in hq
    simp only [Bool.and_eq_true, decide_eq_true_eq, Bool.or_eq_true, Bool.not_eq_true'] at q1
    obtain ⟨q1, q2⟩ := q1
    obtain ⟨C, T, N, f1, f2, f3, f4, f5, f6⟩ := F3 _ _ _ _ q1
    obtain ⟨e1, e2, e3, ⟨ty, e4, e4'⟩, e5⟩ := F2 _ _ _ _ f1
    refine ks_put hx hb hts (fun w hw => hTW w (e2 w hw)) ty e4 e5 hown hKx f1 f2 e3 F12 f3 (e4' _ f3).1 (e4' _ f3).2 (tw _ f4) (fun z => ?_) hd (hk rfl)
    rw [f5] at z
    rcases q2 with q2 | q2
    · rw [q2] at z; cases z
    · refine ⟨hnm.trans (hinit q2.1), ?_⟩
      rw [f6, mm_beq q2.2, e1]
  | 12, hq, hk =>
    have hk := hk rfl
    show mmKS sh tg B b g aC p l e R s m args below meth c H0 D cl nL n0 z0 Qm pc (oAld sh (fun _ _ => none) a.toNat k)
    simp only [mmCand] at hq
    obtain ⟨q1, rfl⟩ := mmB1_in hq
    have q2 := mm_blt q1
    generalize hn : a.toNat = n at q2 hd hk ⊢
    match n, q2, hd, hk with
    | 0, _, hd, hk => exact ks_ald hx hb hKx F12 (htys 0 (by omega)) (Or.inl ⟨rfl, hd⟩) hk
    | 1, _, hd, hk => exact ks_ald hx hb hKx F12 (htys 1 (by omega)) (Or.inr (Or.inl ⟨rfl, hd⟩)) hk
    | 2, _, hd, hk => exact ks_ald hx hb hKx F12 (htys 2 (by omega)) (Or.inr (Or.inr (Or.inl ⟨rfl, hd⟩))) hk
    | 3, _, hd, hk => exact ks_ald hx hb hKx F12 (htys 3 (by omega)) (Or.inr (Or.inr (Or.inr (Or.inl ⟨rfl, hd⟩)))) hk
    | 4, _, hd, hk => exact ks_ald hx hb hKx F12 (htys 4 (by omega)) (Or.inr (Or.inr (Or.inr (Or.inr (Or.inl ⟨rfl, hd⟩))))) hk
    | 5, _, hd, hk => exact ks_ald hx hb hKx F12 (htys 5 (by omega)) (Or.inr (Or.inr (Or.inr (Or.inr (Or.inr ⟨rfl, hd⟩))))) hk
  | 13, hq, hk =>
    have hk := hk rfl
    show mmKS sh tg B b g aC p l e R s m args below meth c H0 D cl nL n0 z0 Qm pc (oAst sh (fun _ _ => none) wn a.toNat k)
    simp only [mmCand] at hq
    obtain ⟨q1, rfl⟩ := mmB1_in hq
    simp only [Bool.and_eq_true] at q1
    have q2 := mm_blt q1.1
    have q3 := q1.2
    obtain ⟨rT, rN, hr4⟩ := F13
    obtain ⟨-, -, hsh4, -⟩ := F2 _ _ _ _ hr4
    generalize hn : a.toNat = n at q2 q3 hd hk ⊢
    match n, q2, q3, hd, hk with
    | 0, _, _, hd, hk => exact ks_ast hx hb hKx F12 (htys 0 (by omega)) hr4 hsh4 (Or.inl ⟨rfl, hd⟩) hk
    | 1, _, _, hd, hk => exact ks_ast hx hb hKx F12 (htys 1 (by omega)) hr4 hsh4 (Or.inr (Or.inl ⟨rfl, hd⟩)) hk
    | 2, _, _, hd, hk => exact ks_ast hx hb hKx F12 (htys 2 (by omega)) hr4 hsh4 (Or.inr (Or.inr (Or.inl ⟨rfl, hd⟩))) hk
    | 3, _, _, hd, hk => exact ks_ast hx hb hKx F12 (htys 3 (by omega)) hr4 hsh4 (Or.inr (Or.inr (Or.inr (Or.inl ⟨rfl, hd⟩)))) hk
    | 4, _, q3, _, _ => cases q3
    | 5, _, _, hd, hk => exact ks_ast hx hb hKx F12 (htys 5 (by omega)) hr4 hsh4 (Or.inr (Or.inr (Or.inr (Or.inr ⟨rfl, hd⟩)))) hk
  | 14, hq, hk =>
    obtain rfl := List.mem_singleton.mp hq
    exact ks_len hx hb hKx F12 (fun x hx => ⟨_, htys _ (by have := hsh6 x; omega)⟩) hd (hk rfl)
  | 15, hq, hk =>
    have hk := hk rfl
    show mmKS sh tg B b g aC p l e R s m args below meth c H0 D cl nL n0 z0 Qm pc (oIf X a.toNat (li.headD 0).toNat k)
    simp only [mmCand] at hq
    obtain ⟨q1, rfl⟩ := mmB1_in hq
    have q2 := mm_blt q1
    have ht : (pc : Int) + (((pcs.getD (li.headD 0).toNat 0 : Nat) : Int) - (pc : Int)) = ((pcs.getD (li.headD 0).toNat 0 : Nat) : Int) := by omega
    generalize hn : a.toNat = n at q2 hd hk ⊢
    match n, q2, hd, hk with
    | 0, _, hd, hk => exact ks_if hx hb ht (Or.inl ⟨rfl, hd⟩) hk (hX _)
    | 1, _, hd, hk => exact ks_if hx hb ht (Or.inr (Or.inl ⟨rfl, hd⟩)) hk (hX _)
    | 2, _, hd, hk => exact ks_if hx hb ht (Or.inr (Or.inr (Or.inl ⟨rfl, hd⟩))) hk (hX _)
    | 3, _, hd, hk => exact ks_if hx hb ht (Or.inr (Or.inr (Or.inr (Or.inl ⟨rfl, hd⟩)))) hk (hX _)
    | 4, _, hd, hk => exact ks_if hx hb ht (Or.inr (Or.inr (Or.inr (Or.inr (Or.inl ⟨rfl, hd⟩))))) hk (hX _)
    | 5, _, hd, hk => exact ks_if hx hb ht (Or.inr (Or.inr (Or.inr (Or.inr (Or.inr ⟨rfl, hd⟩))))) hk (hX _)
  | 16, hq, hk =>
    have hk := hk rfl
    show mmKS sh tg B b g aC p l e R s m args below meth c H0 D cl nL n0 z0 Qm pc (oIcmp X a.toNat (li.headD 0).toNat k)
    simp only [mmCand] at hq
    obtain ⟨q1, rfl⟩ := mmB1_in hq
    have q2 := mm_blt q1
    have ht : (pc : Int) + (((pcs.getD (li.headD 0).toNat 0 : Nat) : Int) - (pc : Int)) = ((pcs.getD (li.headD 0).toNat 0 : Nat) : Int) := by omega
    generalize hn : a.toNat = n at q2 hd hk ⊢
    match n, q2, hd, hk with
    | 0, _, hd, hk => exact ks_icmp hx hb ht (Or.inl ⟨rfl, hd⟩) hk (hX _)
    | 1, _, hd, hk => exact ks_icmp hx hb ht (Or.inr (Or.inl ⟨rfl, hd⟩)) hk (hX _)
    | 2, _, hd, hk => exact ks_icmp hx hb ht (Or.inr (Or.inr (Or.inl ⟨rfl, hd⟩))) hk (hX _)
    | 3, _, hd, hk => exact ks_icmp hx hb ht (Or.inr (Or.inr (Or.inr (Or.inl ⟨rfl, hd⟩)))) hk (hX _)
    | 4, _, hd, hk => exact ks_icmp hx hb ht (Or.inr (Or.inr (Or.inr (Or.inr (Or.inl ⟨rfl, hd⟩))))) hk (hX _)
    | 5, _, hd, hk => exact ks_icmp hx hb ht (Or.inr (Or.inr (Or.inr (Or.inr (Or.inr ⟨rfl, hd⟩))))) hk (hX _)
  | 17, hq, hk =>
    obtain rfl := List.mem_singleton.mp hq
    have ht : (pc : Int) + (((pcs.getD a.toNat 0 : Nat) : Int) - (pc : Int)) = ((pcs.getD a.toNat 0 : Nat) : Int) := by omega
    exact ks_goto hx hb ht hd (hX a.toNat)
  | 18, hq, hk => cases hq
  | 19, hq, hk => cases hq
  | 20, hq, hk =>
    obtain ⟨q1, rfl⟩ := mmB1_in hq
    simp only [Bool.and_eq_true] at q1
    have q2 := mm_beq q1.1
    have q3 := mm_blt q1.2
    show mmKS sh tg B b g aC p l e R s m args below meth c H0 D cl nL n0 z0 Qm pc (oRet Q a.toNat)
    rw [q2] at hd q3 ⊢
    refine hret pc ?_
    match rt, q3, hd with
    | 0, _, hd => exact Or.inl ⟨rfl, hd⟩
    | 1, _, hd => exact Or.inr (Or.inl ⟨rfl, hd⟩)
    | 2, _, hd => exact Or.inr (Or.inr (Or.inl ⟨rfl, hd⟩))
    | 3, _, hd => exact Or.inr (Or.inr (Or.inr (Or.inl ⟨rfl, hd⟩)))
    | 4, _, hd => exact Or.inr (Or.inr (Or.inr (Or.inr ⟨rfl, hd⟩)))
  | 21, hq, hk =>
    have hk := hk rfl
    show mmKS sh tg B b g aC p l e R s m args below meth c H0 D cl nL n0 z0 Qm pc (oCall sh mp K n0 z0 mc ms a.toNat k)
    simp only [mmCand] at hq
    generalize (li.getD 1 0).toNat = y at hq
    generalize a.toNat = mi at hq ⊢
    obtain ⟨r1, r2, r3, r4⟩ := hroom mi
    have callB : ∀ kd idx, (ow, idx, mi, kd) ∈ tb.2.1 → ∀ n, (parseMethodDescriptor (yM mi).desc).map (fun d => d.parameters.length) = some n → CallB R s args (onm ow) idx (yM mi) (bM mi) (lM mi) (rM mi) (.code (yM mi) (bM mi) (lM mi) (rM mi) :: TW) (rmM mi) (mp mi).2.2.2.1 (mp mi).2.2.2.2.1 n := by
      intro kd idx hin n hn
      obtain ⟨g1, g2, g3, g4, -, -⟩ := F4 _ _ _ _ hin
      exact callB_of n hts (mm_good F1 hTW g2) rfl r1 r2 (tw _ g3) (tw _ g1) ⟨g4.1, g4.2, hn⟩ ⟨r3, r4⟩
    generalize hxn : (li.headD 0).toNat = xn at hq
    match xn, hq with
    | 0, hq =>
      obtain ⟨q1, rfl⟩ := mmB1_in hq
      have q1 := of_decide_eq_true q1
      have hcb := callB _ _ q1
      obtain ⟨g1, g2, g3, g4, g5, g6⟩ := F4 _ _ _ _ q1
      rcases g6 with ⟨g6, -⟩ | ⟨-, g7, ⟨T, N, g8⟩, ⟨ts, g9, g10⟩, g11, g12, -⟩
      · cases g6
      · refine ks_call hx hb hml hown hts hKA hstr F12 hmc hms (hKs mi) g5 (Or.inl ⟨_, T, N, ts.length, g7, g8, (F2 _ _ _ _ g8).2.2.1, ⟨ts, g9, rfl⟩, Or.inl ⟨hd, hcb _ g10, tw _ g11, tw _ (g12 rfl)⟩⟩) hk
    | 1, hq =>
      obtain ⟨q1, rfl⟩ := mmB1_in hq
      have q1 := of_decide_eq_true q1
      have hcb := callB _ _ q1
      obtain ⟨g1, g2, g3, g4, g5, g6⟩ := F4 _ _ _ _ q1
      rcases g6 with ⟨-, g7, g8, g9⟩ | ⟨g6, -⟩
      · refine ks_call hx hb hml hown hts hKA hstr F12 hmc hms (hKs mi) g5 (Or.inr ⟨g7, hd, hcb _ g9, tw _ g8⟩) hk
      · rcases g6 with g6 | g6 <;> cases g6
    | 2, hq =>
      obtain ⟨q1, rfl⟩ := mmB1_in hq
      have q1 := of_decide_eq_true q1
      have hcb := callB _ _ q1
      obtain ⟨g1, g2, g3, g4, g5, g6⟩ := F4 _ _ _ _ q1
      rcases g6 with ⟨g6, -⟩ | ⟨-, g7, ⟨T, N, g8⟩, ⟨ts, g9, g10⟩, g11, -, g12⟩
      · cases g6
      · have hr := (g12 rfl).2
        have hcb := hcb _ g10
        have hKs := hKs mi
        rw [hr] at hcb hKs
        exact ks_call hx hb hml hown hts hKA hstr F12 hmc hms hKs g5 (Or.inl ⟨_, T, N, ts.length, g7, g8, (F2 _ _ _ _ g8).2.2.1, ⟨ts, g9, rfl⟩, Or.inr ⟨hd, rfl, hcb, (g12 rfl).1, tw _ g11⟩⟩) hk
    | n + 3, hq => cases hq
  | 22, hq, hk =>
    obtain ⟨q1, rfl⟩ := mmB1_in hq
    obtain ⟨C, T, N, f1, f2, f3, f4, f5⟩ := F7 _ _ _ (of_decide_eq_true q1)
    obtain ⟨e1, e2, e3, ⟨ty, e4, e4'⟩, e5⟩ := F2 _ _ _ _ f1
    exact ks_new hx hb hmc hms hts (fun w hw => hTW w (e2 w hw)) ty e4 hown hKx f1 f2 e3 e4' (tw _ f3) (tw _ f4) (tw _ f5) hd (hk rfl)
  | 23, hq, hk =>
    have hk := hk rfl
    show mmKS sh tg B b g aC p l e R s m args below meth c H0 D cl nL n0 z0 Qm pc (oNewA sh n0 z0 mc ms a.toNat k)
    simp only [mmCand] at hq
    generalize a.toNat = n at hq ⊢
    have h4 : ∀ n : Nat, q ∈ mmB1 (Nat.blt n 4) (Instr.newarray (mmAty n), 2) → mmKS sh tg B b g aC p l e R s m args below meth c H0 D cl nL n0 z0 Qm pc (oNewA sh n0 z0 mc ms n k) := by
      intro n hq
      obtain ⟨q1, rfl⟩ := mmB1_in hq
      have q2 := mm_blt q1
      exact ks_newA hx hb hmc hms hKx (htys n (by omega)) q2 (mm_ty n q2) (by rw [mm_ty n q2]; exact tw _ (F11 n q2)) hd hk
    match n, hq with
    | 5, hq =>
      obtain ⟨q1, rfl⟩ := mmB1_in hq
      have f1 := F10 _ _ (of_decide_eq_true q1)
      exact ks_newQ hx hb hmc hms hown hKx (htys 5 (by omega)) (tw _ f1) hKA.2.1 hd hk
    | 0, hq => exact h4 0 hq
    | 1, hq => exact h4 1 hq
    | 2, hq => exact h4 2 hq
    | 3, hq => exact h4 3 hq
    | 4, hq => exact h4 4 hq
    | n + 6, hq => exact h4 _ hq
  | 24, hq, hk =>
    obtain ⟨q1, rfl⟩ := mmB1_in hq
    exact hgrid _ _ _ (of_decide_eq_true q1) hd (hk rfl)
  | 25, hq, hk =>
    obtain ⟨q1, rfl⟩ := mmB1_in hq
    obtain ⟨f1, f2, f3, f4⟩ := F9 _ _ (of_decide_eq_true q1)
    exact ks_cpy hx hb hml hown (tw _ f1) (tw _ f2) (tw _ f3) (tw _ f4) hKx F12 (htys 0 (by omega)) ⟨hR1, hR2⟩ hd (hk rfl)
  | 26, hq, hk =>
    obtain ⟨q1, rfl⟩ := mmB1_in hq
    obtain ⟨f1, f2, f3⟩ := F8 _ _ (of_decide_eq_true q1)
    exact ks_obj hx hb hml hown (tw _ f1) (tw _ f2) (tw _ f3) ⟨hR1, hR3⟩ hd (hk rfl)
  | 27, hq, hk =>
    obtain ⟨q1, rfl⟩ := mmB1_in hq
    obtain ⟨Ln, xs', s1, s2, s3, s4, s5, s6⟩ := hsc q1
    exact ks_sld hx hb s1 s2 s3 s4 s5 s6 hd (hk rfl)
  | 28, hq, hk =>
    obtain ⟨q1, rfl⟩ := mmB1_in hq
    obtain ⟨Ln, xs', s1, s2, s3, s4, s5, s6⟩ := hsc q1
    exact ks_slen hx hb s1 s2 s3 s4 s5 hd (hk rfl)
  | 29, hq, hk =>
    obtain ⟨q1, rfl⟩ := mmB1_in hq
    exact (htext _ _ _).2.1 (of_decide_eq_true q1) hd (hk rfl)
  | 30, hq, hk =>
    obtain ⟨q1, rfl⟩ := mmB1_in hq
    exact (htext _ _ _).2.2.1 (of_decide_eq_true q1) hd (hk rfl)
  | 31, hq, hk =>
    obtain ⟨q1, rfl⟩ := mmB1_in hq
    simp only [Bool.and_eq_true, decide_eq_true_eq] at q1
    exact (htext _ _ _).2.2.2 _ (mm_blt q1.1) q1.2 hd (hk rfl)
  | n + 32, hq, hk => cases hq
end MS1
