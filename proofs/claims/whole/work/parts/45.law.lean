/-! ===== mm: the law itself ===== -/
/-- the heap with which the law begins: nothing made, the next cell is 1 -/
def mmH0 : mmH := fun a b => if a = 0 ∧ b = 0 then 1 else 0
section ML
variable {sh : Int → Nat × Nat} {tg : Nat → Nat → Nat} {aC : Nat → ClassId} {D : va_G} {cl : List vw_C} {tys : List (ClassId × FieldType)} {wn : Nat → Int → Bool} {tb : mmT} {fin : Nat → Nat → Bool} {onm : Nat → String} {mp : Nat → mmM} {yM : Nat → MethodName} {bM : Nat → ByteArray} {lM : Nat → Nat} {rM : Nat → Option FieldType} {TW Ts : List Cond} {bl : Nat → List (List mmOp)} {oM : Nat → Nat × Bool} {pM : Nat → List Nat} {tx : List Int}
/-- a walk of a body whose end is the law's: from its checked blocks; Z: what the end wants -/
theorem mm_law {l : Launch} {p : Program} {e : Env} {R : Room} {s : State} {m : MethodId} {args : Array Value} {below : List Frame} {meth : Method} {c : Code} {nL B b g d Ln ow : Nat} {cc : ByteArray} {xs : Int → Int} {xs' : Nat → Int32} {pcs : List Nat} {blks : List (List mmOp)} {Qm : State → Prop}
    (hF : mmFT sh tg tb fin onm cl mp yM bM lM rM TW) (hM : mmFM tb fin onm mp yM bM lM rM TW bl oM pM) (hcl7 : ∀ x, (sh x).1 < 106) (hl40 : ∀ mi, lM mi ≤ 40) (hnat : nativeFrameWords "java/lang/System" "arraycopy" 5 ≤ 90) (htys : ∀ kd, kd < 6 → tys[kd]? = some (aC kd, mmKt kd))
    (htext : mmTextOk sh tg B b g aC l D cl tys tb onm TW tx) (hgrid : mmGridOk sh tg B b g aC l D cl tys tb onm TW)
    (hx : p.tables.exec = Jvm.exec) (hb : c.code = cc) (hml : c.maxLocals = nL) (hown : s.vm.findClass (onm ow) = some m.cls) (hts : ∀ w ∈ Ts, w.before args s = true) (hTW : ∀ w ∈ TW, w ∈ Ts) (hKA : mmKA D cl tys s) (hstr : mmStr B g s) (hRm : d + 7 ≤ R.frames ∧ 80 * d + 200 ≤ R.locals)
    (hX : va_X b Ln xs' s s.heap) (hbl : b < s.heap.size) (hB : s.heap.size = B + 1) (hL2 : Ln < 2147483648) (hxs : ∀ j : Nat, j < Ln → xs j = (xs' j).toInt)
    (hchk : mmChk tb fin ow false true 4 cc pcs blks = true) (hargs : args = #[.ref b]) (hnL : 1 ≤ nL)
    (hend : ∀ (pc : Nat) (H : Heap) (locs : List Loc) (lsA : Array Slot) (n z : Nat), decode cc pc = .ok (.ireturn, 1) → (∀ q ∈ locs, s.heap.size ≤ q.base) → n ≤ R.cells → z ≤ R.slots → W p l e R s m args below meth c H locs n z Qm (F0 m pc lsA [.int 1]))
    (hpure : mmWb sh tg (fun _ _ => none) mp tx (mmC sh tg (fun _ _ => none) wn mp bl lM tx d) (fun x _ => x = 1) (wn 0) blks 1 0 (R.cells : Int) (R.slots : Int) (Ln : Int) xs 0 ((4, 0) :: List.replicate (nL - 1) (0, 0)) [] mmH0) :
    W p l e R s m args below meth c s.heap [] 0 0 Qm (entryFrame m args nL) := by
  subst hargs
  have hbB : b ≤ B := by omega
  have hl := lv_entry ([.ref b]) (n := nL) (show (lg_sl [Value.ref b]).length ≤ nL from hnL)
  rw [show (#[Value.ref b] : Array Value) = ([Value.ref b] : List Value).toArray from rfl, lg_entry_eq]
  generalize (lg_sl ([.ref b]) ++ List.replicate (nL - (lg_sl ([.ref b])).length) Slot.unset).toArray = lsA at hl ⊢
  simp only [mmChk, Bool.and_eq_true, decide_eq_true_eq] at hchk
  obtain ⟨c1, c2, c3⟩ := hchk
  have hC : mmCx meth.name true ow 4 aC p l R s m ([Value.ref b] : List Value).toArray meth c D cl nL B b cc tys onm TW Ts (R.cells : Int) (R.slots : Int) (Ln : Int) xs s.heap sh g :=
    ⟨hx, hb, hml, hown, hts, hTW, hKA, htys, rfl, rfl, ⟨by omega, by omega, by omega⟩, rfl, fun _ => ⟨Ln, xs', hX, hbl, hbB, rfl, hL2, hxs⟩, hcl7, hstr, rfl⟩
  have key := hpure (fun i ls st h' => ∀ (H : Heap) (locs : List Loc) (lsB : Array Slot), mmIn sh tg B b g aC R s.heap D cl nL 1 0 ls st h' H locs lsB →
    W p l e R s m ([Value.ref b] : List Value).toArray below meth c H locs ((h' 0 0).toNat - 1) ((h' 0 1).toNat - 0) Qm (F0 m (pcs.getD i 0) lsB (st.map (mmVal B b g)))) ?_
  · have e00 : mmH0 0 0 = 1 := rfl
    have e01 : mmH0 0 1 = 0 := rfl
    have := key s.heap [] lsA ⟨?_, ?_, ?_, fun v hv => (by cases hv), ⟨?_, by rw [e00, hB]; rfl, va_S.rf, ?_⟩, ?_, ?_, ?_, ?_⟩
    · have e0 : pcs.getD 0 0 = 0 := by rw [List.getD_eq_getElem?_getD, c1]; rfl
      rw [e0, e00, e01] at this
      exact this
    · refine lv_less hl fun q hq => ?_
      obtain ⟨i, w⟩ := q
      obtain ⟨q1, q2, rfl⟩ := (mmLv_in B b g).mp hq
      cases i with
      | zero => exact List.mem_cons_self
      | succ i =>
        exfalso; apply q2
        rw [List.getD_cons_succ, List.getD_eq_getElem?_getD, List.getElem?_replicate]
        split <;> rfl
    · simp; omega
    · intro v hv
      rcases List.mem_cons.mp hv with q | q
      · rw [q]; trivial
      · rw [(List.mem_replicate.mp q).2]; trivial
    · intro k q hq
      have : (mmWs sh tg B b g aC mmH0) = [] := by
        unfold mmWs
        rw [e00]
        rfl
      rw [this] at hq
      simp at hq
    · refine ⟨by rw [e00]; omega, by rw [e01]; omega, fun k k1 k2 => ?_⟩
      rw [e00] at k2
      omega
    · rw [e00]; omega
    · rw [e01]; omega
    · rw [e00]; exact Nat.zero_le _
    · rw [e01]; exact Nat.zero_le _
  · intro i ls st h' hex H locs lsB hin
    by_cases hi : i < blks.length
    · have hci := List.all_eq_true.mp c3 i (List.mem_range.mpr (by omega))
      refine ks_blk (n0 := 1) (z0 := 0) (rmM := mmRm mp d) (isInit := false) (nm := meth.name) hF hC (fun q => by cases q) (fun mi' as' h'' Qc hk => mm_sound hF hM hcl7 hl40 hnat htys htext hgrid d mi' as' h'' Qc hk) (fun mi' => ⟨rfl, rfl, by show d + 5 + 1 ≤ R.frames; omega, by have := hl40 mi'; show 8 + (lM mi' + 11) + (80 * d + 120) ≤ R.locals; omega⟩) ?_ (htext p e _ s m _ below meth c _ _ _ _ _ _ hx hb hown (fun w hw => hts w (hTW w hw)) hml ⟨by omega, by omega⟩ hKA hstr) (hgrid p e _ s m _ below meth c _ _ _ _ _ _ hx hb hown (fun w hw => hts w (hTW w hw)) hKA) (fun bl' ls st h H locs lsA q hA => q H locs lsA hA) _ _ hci ls st h' H locs lsB hex hin
      intro pc' hd
      have hd : decode cc pc' = .ok (.ireturn, 1) := by
        rcases hd with ⟨d1, d2⟩ | ⟨d1, d2⟩ | ⟨d1, d2⟩ | ⟨d1, d2⟩ | ⟨d1, d2⟩ <;> first
          | (exfalso; omega)
          | exact d2
      intro ls st h H locs lsA hp hA
      match st, hp, hA with
      | [⟨t, x⟩], hp, hA =>
        obtain ⟨ht, hp⟩ := mmG_iff.mp hp
        obtain ⟨-, hp2⟩ := mmD_iff.mp hp
        have e1 : t = 1 := mm_beq ht
        subst e1
        have hp3 : x = 1 := hp2
        subst hp3
        have hcnt := hA.2.2.2.2.2
        have hS := hA.wh.2.2.1.2.2
        exact hend pc' H locs lsA _ _ hd (fun q hq => by have := hS q hq; unfold mmA at this; omega) (by omega) (by omega)
    · rw [List.getD_eq_getElem?_getD, List.getElem?_eq_none (by omega)] at hex
      exact hex.elim
end ML
