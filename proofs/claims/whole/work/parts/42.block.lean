/-! ===== mm: blocks, methods ===== -/
section MB0
variable {pc : Nat} {pcs : List Nat}
theorem mmLck_at {off : Int → Int} : ∀ (ps : List (Int × Int)) (ts : List Int), mmLck off ps ts = true → ts.length = 2 * ps.length ∧ ∀ (j : Nat) (q : Int × Int), ps[j]? = some q → ts[2 * j]? = some q.1 ∧ ∃ t, ts[2 * j + 1]? = some t ∧ off t = q.2
  | [], [], _ => ⟨rfl, fun j q h => by simp at h⟩
  | [], _ :: _, h => by simp [mmLck] at h
  | q :: ps, [], h => by simp [mmLck] at h
  | q :: ps, [_], h => by simp [mmLck] at h
  | q :: ps, k :: t :: r, h => by
    simp only [mmLck, Bool.and_eq_true, decide_eq_true_eq] at h
    obtain ⟨h1, h2, h3⟩ := h
    obtain ⟨i1, i2⟩ := mmLck_at ps r h3
    refine ⟨by simp [i1]; omega, fun j z hz => ?_⟩
    cases j with
    | zero =>
      simp at hz
      subst hz
      exact ⟨by simp [h1], t, by simp, h2⟩
    | succ j =>
      rw [List.getElem?_cons_succ] at hz
      obtain ⟨a1, t', a2, a3⟩ := i2 j z hz
      have e1 : 2 * (j + 1) = 2 * j + 1 + 1 := by omega
      have e2 : 2 * (j + 1) + 1 = 2 * j + 1 + 1 + 1 := by omega
      refine ⟨by rw [e1, List.getElem?_cons_succ, List.getElem?_cons_succ]; exact a1, t', by rw [e2, List.getElem?_cons_succ, List.getElem?_cons_succ]; exact a2, a3⟩
end MB0
section MB1
variable {sh : Int → Nat × Nat} {tg : Nat → Nat → Nat} {B b g : Nat} {aC : Nat → ClassId} {p : Program} {l : Launch} {e : Env} {R : Room} {s : State} {m : MethodId} {args : Array Value} {below : List Frame} {meth : Method} {c : Code} {H0 : Heap} {D : va_G} {cl : List vw_C} {nL n0 z0 : Nat} {Qm : State → Prop}
variable {cc : ByteArray} {tys : List (ClassId × FieldType)} {wn : Int → Bool} {tb : mmT} {fin : Nat → Nat → Bool} {onm : Nat → String} {mp : Nat → mmM} {yM : Nat → MethodName} {bM : Nat → ByteArray} {lM : Nat → Nat} {rM : Nat → Option FieldType} {TW Ts : List Cond}
variable {K : Nat → List Int → mmH → (Int → mmH → Prop) → Prop} {Q : Int → mmH → Prop} {X : Nat → mmKont} {mc ms L : Int} {xs : Int → Int} {tx : List Int}
theorem ks_sw {pc : Nat} {pcs : List Nat} {op : mmOp} {i : Instr} {len : Nat} {k : mmKont} (hx : p.tables.exec = Jvm.exec) (hb : c.code = cc) (hX : ∀ bl : Nat, mmKS sh tg B b g aC p l e R s m args below meth c H0 D cl nL n0 z0 Qm (pcs.getD bl 0) (X bl)) (hd : decode cc pc = .ok (i, len)) (hq : mmSw pcs pc op i = true) :
    mmKS sh tg B b g aC p l e R s m args below meth c H0 D cl nL n0 z0 Qm pc (mmStep sh tg (fun _ _ => none) wn mp K Q X n0 z0 mc ms L xs tx op.1 op.2.1 op.2.2 k) := by
  obtain ⟨o, a, li⟩ := op
  unfold mmSw at hq
  simp only [] at hq
  split at hq
  · next _ _ d ts dd lo hi offs =>
    simp only [Bool.and_eq_true, decide_eq_true_eq] at hq
    obtain ⟨q1, q2, q3, q4⟩ := hq
    have q2' : lo = a := q2
    have q3' : hi = a + (ts.length : Int) - 1 := q3
    have q5 : lo + (ts.length : Int) = hi + 1 := by rw [q2', q3']; omega
    subst q2'
    refine ks_tsw (pcs := fun bl => pcs.getD bl 0) hx hb hd q5 (by rw [q1]; omega) (fun j t hj => ?_) hX
    refine ⟨((pcs.getD t.toNat 0 : Nat) : Int) - (pc : Int), ?_, by omega⟩
    rw [q4]
    simp [hj]
  · next _ _ d ts dd ps =>
    simp only [Bool.and_eq_true, decide_eq_true_eq] at hq
    obtain ⟨q1, q2, q3⟩ := hq
    obtain ⟨l1, l2⟩ := mmLck_at _ _ q3
    refine ks_lsw (pcs := fun bl => pcs.getD bl 0) hx hb hd q2 (by rw [q1]; omega) l1 (fun j q hj => ?_) hX
    obtain ⟨a1, t, a2, a3⟩ := l2 j q hj
    exact ⟨a1, t, a2, by rw [← a3]; omega⟩
  · cases hq
theorem ks_blk {ow rt : Nat} {isInit sc : Bool} {nm : String} {pcs : List Nat} {rmM : Nat → Room} (hF : mmFT sh tg tb fin onm cl mp yM bM lM rM TW) (hC : mmCx nm sc ow rt aC p l R s m args meth c D cl nL B b cc tys onm TW Ts mc ms L xs H0 sh g) (hinit : isInit = true → nm = "<init>")
    (hKs : ∀ mi as h Qc, K mi as h Qc → mmMet sh tg B b g aC D cl tys l (yM mi) (.code (yM mi) (bM mi) (lM mi) (rM mi) :: TW) (rmM mi) (mp mi).1.reverse (mp mi).2.1 (mp mi).2.2.2.1 (mp mi).2.2.2.2.1 as h Qc)
    (hroom : ∀ mi, (rmM mi).cells = (mp mi).2.2.2.1 ∧ (rmM mi).slots = (mp mi).2.2.2.2.1 ∧ (rmM mi).frames + 1 ≤ R.frames ∧ 8 + (lM mi + 11) + (rmM mi).locals ≤ R.locals)
    (hret : ∀ (pc' : Nat), (rt = 0 ∧ decode cc pc' = .ok (.return_, 1)) ∨ (rt = 1 ∧ decode cc pc' = .ok (.ireturn, 1)) ∨ (rt = 2 ∧ decode cc pc' = .ok (.lreturn, 1)) ∨ (rt = 3 ∧ decode cc pc' = .ok (.areturn, 1)) ∨ (rt = 4 ∧ decode cc pc' = .ok (.ireturn, 1)) → mmKS sh tg B b g aC p l e R s m args below meth c H0 D cl nL n0 z0 Qm pc' (oRet Q rt))
    (htext : ∀ (pc' idx : Nat) (k' : mmKont), ((ow, 8 * idx) ∈ tb.2.2.2.2.2.2.2.2.2 → decode cc pc' = .ok (.ldc idx, 2) → mmKS sh tg B b g aC p l e R s m args below meth c H0 D cl nL n0 z0 Qm (pc' + 2) k' → mmKS sh tg B b g aC p l e R s m args below meth c H0 D cl nL n0 z0 Qm pc' (oPush 5 0 k')) ∧ ((ow, 8 * idx + 1) ∈ tb.2.2.2.2.2.2.2.2.2 → decode cc pc' = .ok (.invokevirtual idx, 3) → mmKS sh tg B b g aC p l e R s m args below meth c H0 D cl nL n0 z0 Qm (pc' + 3) k' → mmKS sh tg B b g aC p l e R s m args below meth c H0 D cl nL n0 z0 Qm pc' (oTlen tx k')) ∧ ((ow, 8 * idx + 2) ∈ tb.2.2.2.2.2.2.2.2.2 → decode cc pc' = .ok (.invokevirtual idx, 3) → mmKS sh tg B b g aC p l e R s m args below meth c H0 D cl nL n0 z0 Qm (pc' + 3) k' → mmKS sh tg B b g aC p l e R s m args below meth c H0 D cl nL n0 z0 Qm pc' (oTat tx k')) ∧ ∀ f : Nat, f < 5 → (ow, 8 * idx + 3 + f) ∈ tb.2.2.2.2.2.2.2.2.2 → decode cc pc' = .ok (.invokestatic idx, 3) → mmKS sh tg B b g aC p l e R s m args below meth c H0 D cl nL n0 z0 Qm (pc' + 3) k' → mmKS sh tg B b g aC p l e R s m args below meth c H0 D cl nL n0 z0 Qm pc' (oMath f k'))
    (hgrid : ∀ (pc' idx : Nat) (k' : mmKont), (ow, idx) ∈ tb.2.2.2.2.2.2.2.2.1 → decode cc pc' = .ok (.multianewarray idx 2, 4) → mmKS sh tg B b g aC p l e R s m args below meth c H0 D cl nL n0 z0 Qm (pc' + 4) k' → mmKS sh tg B b g aC p l e R s m args below meth c H0 D cl nL n0 z0 Qm pc' (oNewM sh n0 z0 mc ms k'))
    (hX : ∀ bl : Nat, mmKS sh tg B b g aC p l e R s m args below meth c H0 D cl nL n0 z0 Qm (pcs.getD bl 0) (X bl)) : ∀ (ops : List mmOp) (pc : Nat), mmChkB tb fin ow isInit sc rt cc pcs pc ops = true → mmKS sh tg B b g aC p l e R s m args below meth c H0 D cl nL n0 z0 Qm pc (mmEx sh tg (fun _ _ => none) wn mp K Q X n0 z0 mc ms L xs tx ops)
  | [], pc, h => by simp [mmChkB] at h
  | op :: ops, pc, h => by
    unfold mmChkB at h
    rw [Bool.or_eq_true] at h
    show mmKS sh tg B b g aC p l e R s m args below meth c H0 D cl nL n0 z0 Qm pc (mmStep sh tg (fun _ _ => none) wn mp K Q X n0 z0 mc ms L xs tx op.1 op.2.1 op.2.2 (mmEx sh tg (fun _ _ => none) wn mp K Q X n0 z0 mc ms L xs tx ops))
    rcases h with h | h
    · simp only [Bool.and_eq_true, decide_eq_true_eq] at h
      obtain ⟨h1, h2, h3⟩ := h
      have e : op.1 = 17 := mm_beq h1
      rw [e]
      have := hX op.2.1.toNat
      rw [List.getD_eq_getElem?_getD, h3] at this
      exact this
    · cases hd : decode cc pc with
      | error q => rw [hd] at h; simp at h
      | ok q =>
        rw [hd] at h
        simp only [Bool.or_eq_true, Bool.and_eq_true] at h
        rcases h with ⟨h1, h2⟩ | h
        · obtain ⟨z, hz1, hz2⟩ := List.any_eq_true.mp h1
          have hz := of_decide_eq_true hz2
          rw [← hz] at hz1
          refine ks_op hF hC hinit hKs hroom hret htext hgrid hX hd hz1 (fun he => ?_)
          rcases h2 with h2 | h2
          · rw [h2] at he; cases he
          · exact ks_blk hF hC hinit hKs hroom hret htext hgrid hX ops _ h2
        · exact ks_sw hC.1 hC.2.1 hX hd h
end MB1
section MB2
variable (sh : Int → Nat × Nat) (tg : Nat → Nat → Nat) (fc : Int → Int → Option Int) (wn : Nat → Int → Bool) (mp : Nat → mmM)
-- a method's blocks, how many locals it has
variable (bl : Nat → List (List mmOp)) (nl : Nat → Nat) (tx : List Int)
def mmIl : List Nat → List Int → Nat → List mmV
  | t :: ts, x :: as, n => (t, x) :: (bif Nat.beq t 2 then (0, 0) :: mmIl ts as (n - 2) else mmIl ts as (n - 1))
  | _, _, n => List.replicate n (0, 0)
/-- what holds at a block's start: whatever is closed under the blocks -/
def mmWb (K : Nat → List Int → mmH → (Int → mmH → Prop) → Prop) (Q : Int → mmH → Prop) (w : Int → Bool) (blks : List (List mmOp)) (n0 z0 mc ms L : Int) (xs : Int → Int) (i : Nat) : mmKont := fun ls st h =>
  ∀ X : Nat → mmKont, (∀ i ls st h, mmEx sh tg fc w mp K Q X n0 z0 mc ms L xs tx (blks.getD i []) ls st h → X i ls st h) → X i ls st h
/-- a method, by the depth of calls that are left -/
def mmC : Nat → Nat → List Int → mmH → (Int → mmH → Prop) → Prop
  | 0, _, _, _, _ => False
  | d + 1, mi, as, h, Q => mmWb sh tg fc mp tx (mmC d) (fun x h' => mmGrow (mp mi).2.2.2.1 (mp mi).2.2.2.2.1 h h' ∧ Q x h') (wn (mp mi).2.2.2.2.2) (bl mi) (h 0 0) (h 0 1) ((mp mi).2.2.2.1 : Int) ((mp mi).2.2.2.2.1 : Int) 0 (fun _ => 0) 0 (mmIl (mp mi).1.reverse as (nl mi)) [] h
end MB2
section MB3
variable (sh : Int → Nat × Nat) (tg : Nat → Nat → Nat) (B b g : Nat) (aC : Nat → ClassId)
theorem mmVal_c2 {t : Nat} {x : Int} : (mmVal B b g (t, x)).category = 2 ↔ t = 2 := by
  rw [mmVal_cat]
  by_cases e : t = 2 <;> simp [e]
theorem mmIl_len : ∀ (ts : List Nat) (as : List Int) (n : Nat), (lg_sl (mmAv B b g ts as)).length ≤ n → (mmIl ts as n).length = n
  | [], _, n, _ => by simp [mmIl]
  | _ :: _, [], n, _ => by simp [mmIl]
  | t :: ts, x :: as, n, h => by
    have e : lg_sl (mmAv B b g (t :: ts) (x :: as)) = (if (mmVal B b g (t, x)).category = 2 then [.val (mmVal B b g (t, x)), .second] else [.val (mmVal B b g (t, x))]) ++ lg_sl (mmAv B b g ts as) := rfl
    rw [e, List.length_append] at h
    unfold mmIl
    cases e2 : Nat.beq t 2 with
    | true =>
      rw [if_pos ((mmVal_c2 B b g).mpr (mm_beq e2))] at h
      simp at h
      have := mmIl_len ts as (n - 2) (by omega)
      simp [this]
      omega
    | false =>
      rw [if_neg (fun q => by rw [(mmVal_c2 B b g).mp q] at e2; cases e2)] at h
      simp at h
      have := mmIl_len ts as (n - 1) (by omega)
      simp [this]
      omega
theorem mmIl_at : ∀ (ts : List Nat) (as : List Int) (n k i : Nat), ((mmIl ts as n).getD i (0, 0)).1 ≠ 0 → (k + i, mmVal B b g ((mmIl ts as n).getD i (0, 0))) ∈ lv_args k (mmAv B b g ts as)
  | [], as, n, k, i, h => by
    exfalso; apply h
    unfold mmIl
    rw [List.getD_eq_getElem?_getD, List.getElem?_replicate]
    split <;> rfl
  | t :: ts, [], n, k, i, h => by
    exfalso; apply h
    unfold mmIl
    rw [List.getD_eq_getElem?_getD, List.getElem?_replicate]
    split <;> rfl
  | t :: ts, x :: as, n, k, i, h => by
    have e : lv_args k (mmAv B b g (t :: ts) (x :: as)) = (k, mmVal B b g (t, x)) :: lv_args (if (mmVal B b g (t, x)).category = 2 then k + 2 else k + 1) (mmAv B b g ts as) := rfl
    rw [e]
    unfold mmIl at h ⊢
    cases i with
    | zero => exact List.mem_cons_self
    | succ i =>
      refine List.mem_cons_of_mem _ ?_
      cases e2 : Nat.beq t 2 with
      | true =>
        rw [e2] at h
        rw [if_pos ((mmVal_c2 B b g).mpr (mm_beq e2))]
        simp only [cond_true, List.getD_cons_succ] at h ⊢
        cases i with
        | zero => exact absurd rfl h
        | succ i =>
          rw [List.getD_cons_succ] at h ⊢
          have := mmIl_at ts as (n - 2) (k + 2) i h
          rw [show k + (i + 1 + 1) = k + 2 + i by omega]
          exact this
      | false =>
        rw [e2] at h
        rw [if_neg (fun q => by rw [(mmVal_c2 B b g).mp q] at e2; cases e2)]
        simp only [cond_false, List.getD_cons_succ] at h ⊢
        have := mmIl_at ts as (n - 1) (k + 1) i h
        rw [show k + (i + 1) = k + 1 + i by omega]
        exact this
theorem mmIl_ok {n : Int} : ∀ (ts : List Nat) (as : List Int) (k : Nat), (∀ q ∈ List.zip ts as, mmOk n q) → ∀ v ∈ mmIl ts as k, mmOk n v
  | [], as, k, h, v, hv => by
    unfold mmIl at hv
    rw [(List.mem_replicate.mp hv).2]
    trivial
  | t :: ts, [], k, h, v, hv => by
    unfold mmIl at hv
    rw [(List.mem_replicate.mp hv).2]
    trivial
  | t :: ts, x :: as, k, h, v, hv => by
    rw [List.zip_cons_cons] at h
    unfold mmIl at hv
    rcases List.mem_cons.mp hv with q | q
    · rw [q]; exact h _ List.mem_cons_self
    · have h2 : ∀ q ∈ List.zip ts as, mmOk n q := fun z hz => h z (List.mem_cons_of_mem _ hz)
      cases e2 : Nat.beq t 2 with
      | true =>
        rw [e2] at q
        simp only [cond_true] at q
        rcases List.mem_cons.mp q with q | q
        · rw [q]; trivial
        · exact mmIl_ok ts as _ h2 v q
      | false =>
        rw [e2] at q
        exact mmIl_ok ts as _ h2 v q
end MB3
