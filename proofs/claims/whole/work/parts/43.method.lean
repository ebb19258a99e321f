/-! ===== mm: what the small machine says of a method, the machine does ===== -/
/-- the methods: each one's own kind's number, whether it is a constructor, where its blocks start -/
def mmFM (tb : mmT) (fin : Nat → Nat → Bool) (onm : Nat → String) (mp : Nat → mmM) (yM : Nat → MethodName) (bM : Nat → ByteArray) (lM : Nat → Nat) (rM : Nat → Option FieldType) (TW : List Cond) (bl : Nat → List (List mmOp)) (oM : Nat → Nat × Bool) (pM : Nat → List Nat) : Prop :=
  ∀ mi, bl mi = [] ∨ (mmChk tb fin (oM mi).1 (oM mi).2 false (mp mi).2.1 (bM mi) (pM mi) (bl mi) = true ∧ plainName (yM mi).cls = true ∧ onm (oM mi).1 = (yM mi).cls ∧ ((oM mi).2 = true → (yM mi).name = "<init>") ∧
    ((mp mi).1.foldr (fun t n => (bif Nat.beq t 2 then 2 else 1) + n) 0 ≤ lM mi) ∧
    (((mp mi).2.1 = 0 ∧ rM mi = none) ∨ ((mp mi).2.1 = 1 ∧ rM mi = some .int) ∨ ((mp mi).2.1 = 2 ∧ rM mi = some .long) ∨ ((mp mi).2.1 = 3 ∧ ∃ ty, rM mi = some ty ∧ ((∃ n, ty = .object n) ∨ ∃ t, ty = .array t)) ∨ ((mp mi).2.1 = 4 ∧ rM mi = some .boolean)) ∧
    Cond.code (yM mi) (bM mi) (lM mi) (rM mi) ∈ TW)
def mmRm (mp : Nat → mmM) (d mi : Nat) : Room := { frames := d + 5, cells := (mp mi).2.2.2.1, slots := (mp mi).2.2.2.2.1, locals := 80 * d + 120 }
/-- what is wanted of the text constant's load, its length and characters, and of the library's max, min, floorDiv -/
def mmTextOk (sh : Int → Nat × Nat) (tg : Nat → Nat → Nat) (B b g : Nat) (aC : Nat → ClassId) (l : Launch) (D : va_G) (cl : List vw_C) (tys : List (ClassId × FieldType)) (tb : mmT) (onm : Nat → String) (TW : List Cond) (tx : List Int) : Prop :=
  ∀ (p : Program) (e : Env) (R : Room) (s : State) (m : MethodId) (args : Array Value) (below : List Frame) (meth : Method) (c : Code) (nL n0 z0 : Nat) (Qm : State → Prop) (ow : Nat) (cc : ByteArray), p.tables.exec = Jvm.exec → c.code = cc → s.vm.findClass (onm ow) = some m.cls → (∀ w ∈ TW, w.before args s = true) → c.maxLocals = nL → 150 ≤ R.locals ∧ 6 ≤ R.frames → mmKA D cl tys s → mmStr B g s →
      ∀ (pc' idx : Nat) (k' : mmKont), ((ow, 8 * idx) ∈ tb.2.2.2.2.2.2.2.2.2 → decode cc pc' = .ok (.ldc idx, 2) → mmKS sh tg B b g aC p l e R s m args below meth c s.heap D cl nL n0 z0 Qm (pc' + 2) k' → mmKS sh tg B b g aC p l e R s m args below meth c s.heap D cl nL n0 z0 Qm pc' (oPush 5 0 k')) ∧ ((ow, 8 * idx + 1) ∈ tb.2.2.2.2.2.2.2.2.2 → decode cc pc' = .ok (.invokevirtual idx, 3) → mmKS sh tg B b g aC p l e R s m args below meth c s.heap D cl nL n0 z0 Qm (pc' + 3) k' → mmKS sh tg B b g aC p l e R s m args below meth c s.heap D cl nL n0 z0 Qm pc' (oTlen tx k')) ∧ ((ow, 8 * idx + 2) ∈ tb.2.2.2.2.2.2.2.2.2 → decode cc pc' = .ok (.invokevirtual idx, 3) → mmKS sh tg B b g aC p l e R s m args below meth c s.heap D cl nL n0 z0 Qm (pc' + 3) k' → mmKS sh tg B b g aC p l e R s m args below meth c s.heap D cl nL n0 z0 Qm pc' (oTat tx k')) ∧ ∀ f : Nat, f < 5 → (ow, 8 * idx + 3 + f) ∈ tb.2.2.2.2.2.2.2.2.2 → decode cc pc' = .ok (.invokestatic idx, 3) → mmKS sh tg B b g aC p l e R s m args below meth c s.heap D cl nL n0 z0 Qm (pc' + 3) k' → mmKS sh tg B b g aC p l e R s m args below meth c s.heap D cl nL n0 z0 Qm pc' (oMath f k')
/-- what is wanted of new int[n][m] -/
def mmGridOk (sh : Int → Nat × Nat) (tg : Nat → Nat → Nat) (B b g : Nat) (aC : Nat → ClassId) (l : Launch) (D : va_G) (cl : List vw_C) (tys : List (ClassId × FieldType)) (tb : mmT) (onm : Nat → String) (TW : List Cond) : Prop :=
  ∀ (p : Program) (e : Env) (R : Room) (s : State) (m : MethodId) (args : Array Value) (below : List Frame) (meth : Method) (c : Code) (nL n0 z0 : Nat) (Qm : State → Prop) (ow : Nat) (cc : ByteArray), p.tables.exec = Jvm.exec → c.code = cc → s.vm.findClass (onm ow) = some m.cls → (∀ w ∈ TW, w.before args s = true) → mmKA D cl tys s →
      ∀ (pc' idx : Nat) (k' : mmKont), (ow, idx) ∈ tb.2.2.2.2.2.2.2.2.1 → decode cc pc' = .ok (.multianewarray idx 2, 4) → mmKS sh tg B b g aC p l e R s m args below meth c s.heap D cl nL n0 z0 Qm (pc' + 4) k' → mmKS sh tg B b g aC p l e R s m args below meth c s.heap D cl nL n0 z0 Qm pc' (oNewM sh n0 z0 (R.cells : Int) (R.slots : Int) k')
section MM1
variable {sh : Int → Nat × Nat} {tg : Nat → Nat → Nat} {B b g : Nat} {aC : Nat → ClassId} {l : Launch} {D : va_G} {cl : List vw_C} {tys : List (ClassId × FieldType)} {wn : Nat → Int → Bool} {tb : mmT} {fin : Nat → Nat → Bool} {onm : Nat → String} {mp : Nat → mmM} {yM : Nat → MethodName} {bM : Nat → ByteArray} {lM : Nat → Nat} {rM : Nat → Option FieldType} {TW : List Cond} {bl : Nat → List (List mmOp)} {oM : Nat → Nat × Bool} {pM : Nat → List Nat} {tx : List Int}
theorem mm_sum_rev (f : Nat → Nat) : ∀ (l : List Nat), (l.reverse.map f).sum = l.foldr (fun t n => f t + n) 0
  | [] => rfl
  | t :: l => by
    rw [List.reverse_cons, List.map_append, List.sum_append, mm_sum_rev f l]
    simp
    omega
theorem lg_len : ∀ (ts : List Nat) (as : List Int), (lg_sl (mmAv B b g ts as)).length ≤ (ts.map (fun t => bif Nat.beq t 2 then 2 else 1)).sum
  | [], as => by simp [mmAv, lg_sl]
  | t :: ts, [] => by simp [mmAv, lg_sl]
  | t :: ts, x :: as => by
    have e : lg_sl (mmAv B b g (t :: ts) (x :: as)) = (if (mmVal B b g (t, x)).category = 2 then [.val (mmVal B b g (t, x)), .second] else [.val (mmVal B b g (t, x))]) ++ lg_sl (mmAv B b g ts as) := rfl
    have ih := lg_len ts as
    rw [e, List.length_append, List.map_cons, List.sum_cons]
    cases e2 : Nat.beq t 2 with
    | true =>
      rw [if_pos ((mmVal_c2 B b g).mpr (mm_beq e2))]
      simp
      omega
    | false =>
      rw [if_neg (fun q => by rw [(mmVal_c2 B b g).mp q] at e2; cases e2)]
      simp
      omega
set_option maxHeartbeats 4000000 in
/-- THE THEOREM of the small machine; ht, hg: the text constant's load, new int[n][m] -/
theorem mm_sound (hF : mmFT sh tg tb fin onm cl mp yM bM lM rM TW) (hM : mmFM tb fin onm mp yM bM lM rM TW bl oM pM) (hcl7 : ∀ x, (sh x).1 < 106) (hl40 : ∀ mi, lM mi ≤ 40) (hnat : nativeFrameWords "java/lang/System" "arraycopy" 5 ≤ 90) (htys : ∀ kd, kd < 6 → tys[kd]? = some (aC kd, mmKt kd))
    (htext : mmTextOk sh tg B b g aC l D cl tys tb onm TW tx) (hgrid : mmGridOk sh tg B b g aC l D cl tys tb onm TW) :
    ∀ (d mi : Nat) (as : List Int) (h : mmH) (Q : Int → mmH → Prop), mmC sh tg (fun _ _ => none) wn mp bl lM tx d mi as h Q → mmMet sh tg B b g aC D cl tys l (yM mi) (.code (yM mi) (bM mi) (lM mi) (rM mi) :: TW) (mmRm mp d mi) (mp mi).1.reverse (mp mi).2.1 (mp mi).2.2.2.1 (mp mi).2.2.2.2.1 as h Q
  | 0, mi, as, h, Q, hc => hc.elim
  | d + 1, mi, as, h, Q, hc => by
    intro hlen hok
    have IH := mm_sound hF hM hcl7 hl40 hnat htys htext hgrid d
    rcases hM mi with hbl | ⟨hchk, hplain, hon, hini, hargs, hrt, hcode⟩
    · exfalso
      refine hc (fun _ _ _ _ => False) (fun i ls st h q => ?_)
      rw [hbl] at q
      exact q
    · refine Met.ofW (cc := bM mi) (maxL := lM mi) (ret := rM mi) hplain rfl ?_
      intro p e s m args below meth c s₁ BB hml hv
      obtain ⟨rfl, w1, w2, w3, w4, w5⟩ := hv
      have hx := BB.exec
      have hb := BB.bytes
      have hr := BB.returns
      have hts := atoms_spec (ws := .code (yM mi) (bM mi) (lM mi) (rM mi) :: TW) BB.pre
      have hown : s.vm.findClass (yM mi).cls = some m.cls := findClass_of_methodNamed BB.named
      rw [← hon] at hown
      have hlocks := BB.notSynchronized
      have hname : meth.name = (yM mi).name := (name_of_methodNamed BB.named BB.method).1
      have hTW : ∀ w ∈ TW, w ∈ (Cond.code (yM mi) (bM mi) (lM mi) (rM mi) :: TW) := fun w hw => List.mem_cons_of_mem _ hw
      have hroom : (headSpec (.code (yM mi) (bM mi) (lM mi) (rM mi) :: TW) (mmRm mp (d + 1) mi)).room = mmRm mp (d + 1) mi := rfl
      rw [hroom]
      have hargl : (lg_sl (mmAv B b g (mp mi).1.reverse as)).length ≤ lM mi := by
        have := lg_len (B := B) (b := b) (g := g) (mp mi).1.reverse as
        rw [mm_sum_rev] at this
        omega
      have hl := lv_entry (mmAv B b g (mp mi).1.reverse as) (n := lM mi) hargl
      rw [lg_entry_eq]
      generalize (lg_sl (mmAv B b g (mp mi).1.reverse as) ++ List.replicate (lM mi - (lg_sl (mmAv B b g (mp mi).1.reverse as)).length) Slot.unset).toArray = lsA at hl ⊢
      simp only [mmChk, Bool.and_eq_true, decide_eq_true_eq] at hchk
      obtain ⟨c1, c2, c3⟩ := hchk
      have hn1 := w4.1
      have hz1 := w4.2.1
      have en : h 0 0 = (((h 0 0).toNat : Nat) : Int) := by omega
      have ez : h 0 1 = (((h 0 1).toNat : Nat) : Int) := by omega
      have hQm := rfl (a := MQ below (mmQc sh tg B b g aC D cl tys (mp mi).2.1 (mp mi).2.2.2.1 (mp mi).2.2.2.2.1 h Q) (mmAv B b g (mp mi).1.reverse as).toArray s (mp mi).2.2.2.1 (mp mi).2.2.2.2.1 (mmA B))
      have hC : mmCx (yM mi).name false (oM mi).1 (mp mi).2.1 aC p l (mmRm mp (d + 1) mi) s m (mmAv B b g (mp mi).1.reverse as).toArray meth c D cl (lM mi) B b (bM mi) tys onm TW (Cond.code (yM mi) (bM mi) (lM mi) (rM mi) :: TW) ((mp mi).2.2.2.1 : Int) ((mp mi).2.2.2.2.1 : Int) 0 (fun _ => 0) s.heap sh g := by
        refine ⟨hx, hb, hml, hown, hts, hTW, w3, htys, rfl, rfl, ⟨?_, ?_, ?_⟩, hname, fun q => (by cases q), hcl7, w5, rfl⟩
        · show 1 ≤ d + 1 + 5; omega
        · show _ ≤ 80 * (d + 1) + 120; omega
        · show 20 ≤ 80 * (d + 1) + 120; omega
      have key := hc (fun i ls st h' => ∀ (H : Heap) (locs : List Loc) (lsB : Array Slot), mmIn sh tg B b g aC (mmRm mp (d + 1) mi) s.heap D cl (lM mi) (h 0 0).toNat (h 0 1).toNat ls st h' H locs lsB →
        W p l e (mmRm mp (d + 1) mi) s m (mmAv B b g (mp mi).1.reverse as).toArray below meth c H locs ((h' 0 0).toNat - (h 0 0).toNat) ((h' 0 1).toNat - (h 0 1).toNat) (MQ below (mmQc sh tg B b g aC D cl tys (mp mi).2.1 (mp mi).2.2.2.1 (mp mi).2.2.2.2.1 h Q) (mmAv B b g (mp mi).1.reverse as).toArray s (mp mi).2.2.2.1 (mp mi).2.2.2.2.1 (mmA B)) (F0 m ((pM mi).getD i 0) lsB (st.map (mmVal B b g)))) ?_
      · have := key s.heap [] lsA ⟨?_, ?_, ?_, fun v hv => (by cases hv), ⟨w1, w2, va_S.rf, w4⟩, by omega, by omega, by omega, by omega⟩
        · rw [Nat.sub_self, Nat.sub_self] at this
          have e0 : (pM mi).getD 0 0 = 0 := by rw [List.getD_eq_getElem?_getD, c1]; rfl
          rw [e0] at this
          exact this
        · refine lv_less hl fun q hq => ?_
          obtain ⟨i, w⟩ := q
          obtain ⟨_, q2, rfl⟩ := (mmLv_in B b g).mp hq
          have := mmIl_at B b g _ _ _ 0 i q2
          rw [Nat.zero_add] at this
          exact this
        · exact mmIl_len B b g _ _ _ hargl
        · exact mmIl_ok _ _ _ hok
      · intro i ls st h' hex H locs lsB hin
        by_cases hi : i < (bl mi).length
        · have hci := List.all_eq_true.mp c3 i (List.mem_range.mpr (by omega))
          rw [en, ez] at hex
          refine ks_blk hF hC hini (fun mi' as' h'' Qc hk => IH mi' as' h'' Qc hk) (fun mi' => ⟨rfl, rfl, by show d + 5 + 1 ≤ d + 1 + 5; omega, by have := hl40 mi'; show 8 + (lM mi' + 11) + (80 * d + 120) ≤ 80 * (d + 1) + 120; omega⟩) ?_ (htext p e _ s m _ below meth c _ _ _ _ _ _ hx hb hown (fun w hw => hts w (hTW w hw)) hml ⟨by show 150 ≤ 80 * (d + 1) + 120; omega, by show 6 ≤ d + 1 + 5; omega⟩ w3 w5) (hgrid p e _ s m _ below meth c _ _ _ _ _ _ hx hb hown (fun w hw => hts w (hTW w hw)) w3) (fun bl' ls st h H locs lsA q hA => q H locs lsA hA) _ _ hci ls st h' H locs lsB hex hin
          intro pc' hd
          refine ks_ret hx hb hlocks rfl rfl rfl ⟨by omega, by omega⟩ ⟨rfl, rfl⟩ w3 w5 hr rfl ?_
          rcases hrt with ⟨r1, r2⟩ | ⟨r1, r2⟩ | ⟨r1, r2⟩ | ⟨r1, r2⟩ | ⟨r1, r2⟩ <;> rcases hd with ⟨d1, d2⟩ | ⟨d1, d2⟩ | ⟨d1, d2⟩ | ⟨d1, d2⟩ | ⟨d1, d2⟩ <;> first
            | (exfalso; rw [r1] at d1; cases d1; done)
            | exact Or.inl ⟨r1, d2, r2⟩
            | exact Or.inr (Or.inl ⟨r1, d2, r2⟩)
            | exact Or.inr (Or.inr (Or.inl ⟨r1, d2, r2⟩))
            | exact Or.inr (Or.inr (Or.inr (Or.inl ⟨r1, d2, r2⟩)))
            | exact Or.inr (Or.inr (Or.inr (Or.inr ⟨r1, d2, r2⟩)))
        · rw [List.getD_eq_getElem?_getD, List.getElem?_eq_none (by omega)] at hex
          exact hex.elim
end MM1
