/-! ===== mm: more known slots, more said ===== -/
section MRu
variable {sh : Int → Nat × Nat} {tg : Nat → Nat → Nat} {fc fc0 : Int → Int → Option Int} {w : Int → Bool} {mp : Nat → mmM}
theorem mmJ.get0 {hs h : mmH} (hJ : mmJ fc w hs h) (hle : ∀ k i c, fc0 k i = some c → fc k i = some c) (k i : Int) : (fc0 k i).getD (h k i) = h k i := by
  cases e : fc0 k i with
  | none => rfl
  | some c => exact (hJ.1 k i c (hle k i c e)).symm
theorem none0 {k i : Int} (hle : ∀ k i c, fc0 k i = some c → fc k i = some c) (h : (fc k i).isNone = true) : (fc0 k i).isNone = true := by
  cases e : fc0 k i with
  | none => rfl
  | some c => rw [hle k i c e] at h; cases h
variable {K K' : Nat → List Int → mmH → (Int → mmH → Prop) → Prop} {Q Q' : Int → mmH → Prop} {X X' : Nat → mmKont} {n0 z0 L : Int} {xs : Int → Int} {tx : List Int} {hs : mmH}
theorem mmStep_up (hle : ∀ k i c, fc0 k i = some c → fc k i = some c) (h0 : w 0 = false) (hn0 : hs 0 0 = n0) (hfc : ∀ k i, (sh k).1 = 100 → fc k i = none)
    (hK : ∀ m as h (P P' : Int → mmH → Prop), mmJ fc w hs h → (∀ x h', mmJ fc w hs h' → P' x h' → P x h') → K' m as h P' → K m as h P) (hQ : ∀ x h, mmJ fc w hs h → Q' x h → Q x h) (hX : ∀ i ls st h, mmJ fc w hs h → X' i ls st h → X i ls st h) (o : Nat) (a : Int) (l : List Int) {k k' : mmKont} (hk : ∀ ls st h, mmJ fc w hs h → k' ls st h → k ls st h) (ls st : List mmV) (h : mmH) (hJ : mmJ fc w hs h) :
    mmStep sh tg fc w mp K' Q' X' n0 z0 0 0 L xs tx o a l k' ls st h → mmStep sh tg fc0 w mp K Q X n0 z0 0 0 L xs tx o a l k ls st h := by
  intro q
  have hh0 : h 0 0 = n0 := by rw [hJ.2 0 h0]; exact hn0
  match o, q with
  | 0, q => exact hk _ _ _ hJ q
  | 1, q => exact mmG_mono (hk _ _ _ hJ) q
  | 2, q =>
    match st, q with
    | v :: r, q => exact mmG_mono (hk _ _ _ hJ) q
  | 3, q => exact mmG_mono (hk _ _ _ hJ) q
  | 4, q =>
    match st, q with
    | b :: c :: r, q => exact mmG_mono (hk _ _ _ hJ) q
  | 5, q =>
    match st, q with
    | b :: c :: r, q => exact mmG_mono (hk _ _ _ hJ) q
  | 6, q =>
    match st, q with
    | b :: c :: r, q =>
      show oDv a.toNat k ls (b :: c :: r) h
      have q : oDv a.toNat k' ls (b :: c :: r) h := q
      unfold oDv at q ⊢
      simp only [] at q ⊢
      split at q <;> exact mmG_mono (mmG_mono (hk _ _ _ hJ)) q
  | 7, q =>
    match st, q with
    | c :: r, q =>
      show oCv a.toNat k ls (c :: r) h
      have q : oCv a.toNat k' ls (c :: r) h := q
      unfold oCv at q ⊢
      simp only [] at q ⊢
      split at q <;> exact mmG_mono (hk _ _ _ hJ) q
  | 8, q =>
    match st, q with
    | b :: c :: r, q => exact mmG_mono (hk _ _ _ hJ) q
  | 9, q =>
    show oStk a.toNat k ls st h
    have q : oStk a.toNat k' ls st h := q
    unfold oStk at q ⊢
    split at q
    · match st, q with
      | b :: r, q => exact mmG_mono (hk _ _ _ hJ) q
    · match st, q with
      | b :: c :: r, q => exact mmG_mono (hk _ _ _ hJ) q
    · match st, q with
      | b :: r, q => exact mmG_mono (hk _ _ _ hJ) q
  | 10, q =>
    match st, q with
    | v :: r, q =>
      refine mmG_mono (mmG_mono (fun z => ?_)) q
      rw [hJ.get] at z
      rw [hJ.get0 hle]
      exact hk _ _ _ hJ z
  | 11, q =>
    match st, q with
    | u :: v :: r, q =>
      refine mmG_mono (fun z => ?_) q
      obtain ⟨z1, z2⟩ := mmG_iff.mp z
      simp only [Bool.and_eq_true] at z1
      refine mmG_iff.mpr ⟨?_, hk _ _ _ (hJ.put z1.2.1 z1.2.2) z2⟩
      rw [z1.1, z1.2.1, none0 hle z1.2.2]
      rfl
  | 12, q =>
    match st, q with
    | u :: v :: r, q =>
      refine mmG_mono (mmG_mono (mmG_mono (fun z => ?_))) q
      rw [hJ.get] at z
      rw [hJ.get0 hle]
      exact hk _ _ _ hJ z
  | 13, q =>
    match st, q with
    | t :: u :: v :: r, q =>
      refine mmG_mono (fun z => ?_) q
      obtain ⟨z1, z2⟩ := mmG_iff.mp z
      simp only [Bool.and_eq_true] at z1
      refine mmG_iff.mpr ⟨?_, mmG_mono (mmG_mono (hk _ _ _ (hJ.put z1.2.1 z1.2.2))) z2⟩
      rw [z1.1, z1.2.1, none0 hle z1.2.2]
      rfl
  | 14, q =>
    match st, q with
    | v :: r, q => exact mmG_mono (mmG_mono (hk _ _ _ hJ)) q
  | 15, q =>
    match st, q with
    | v :: r, q => exact mmG_mono (fun z => ⟨fun e => hX _ _ _ _ hJ (z.1 e), fun e => hk _ _ _ hJ (z.2 e)⟩) q
  | 16, q =>
    match st, q with
    | u :: v :: r, q => exact mmG_mono (fun z => ⟨fun e => hX _ _ _ _ hJ (z.1 e), fun e => hk _ _ _ hJ (z.2 e)⟩) q
  | 17, q => exact hX _ _ _ _ hJ q
  | 18, q =>
    match st, l, q with
    | v :: r, d :: ts, q => exact mmG_mono (fun z => ⟨mmTsw_mono (fun b => hX _ _ _ _ hJ) ts a z.1, fun e => hX _ _ _ _ hJ (z.2 e)⟩) q
    | v :: r, [], q => exact q
  | 19, q =>
    match st, l, q with
    | v :: r, d :: ts, q => exact mmG_mono (mmLsw_mono (fun b => hX _ _ _ _ hJ) (hX _ _ _ _ hJ) ts) q
    | v :: r, [], q => exact q
  | 20, q =>
    show oRet Q a.toNat ls st h
    have q : oRet Q' a.toNat ls st h := q
    unfold oRet at q ⊢
    split at q
    · match st, q with
      | [], q => exact hQ _ _ hJ q
    · match st, q with
      | [v], q => exact mmG_mono (mmG_mono (hQ _ _ hJ)) q
    · match st, q with
      | [v], q => exact mmG_mono (hQ _ _ hJ) q
  | 21, q =>
    show oCall sh mp K n0 z0 0 0 a.toNat k ls st h
    have q : oCall sh mp K' n0 z0 0 0 a.toNat k' ls st h := q
    unfold oCall at q ⊢
    split at q
    · exact q.elim
    · exact mmG_mono (mmG_mono (mmG_mono (hK _ _ _ _ _ hJ (fun x h' hJ' => hk _ _ _ hJ')))) q
  | 22, q =>
    have := q.2.1.1
    omega
  | 23, q =>
    match st, q with
    | v :: r, q =>
      have := ((mmG_iff.mp q).2).2.1.1
      omega
  | 24, q =>
    match st, q with
    | u :: v :: r, q =>
      have z := (mmG_iff.mp q).2
      have z1 := z.1.2.1
      have z2 := z.2.2.2.1.1
      omega
  | 25, q =>
    match st, q with
    | n :: dp :: b :: sp :: c :: r, q =>
      refine mmG_mono (fun z => ?_) q
      obtain ⟨z1, z2⟩ := mmG_iff.mp z
      refine mmG_iff.mpr ⟨z1, mmG_mono (hk _ _ _ ?_) z2⟩
      simp only [Bool.and_eq_true] at z1
      have hb := mm_beq z1.2.1
      refine ⟨fun x i cc e => ?_, fun x hx => ?_⟩
      · unfold mmCpy
        by_cases ex : x = b.2
        · rw [ex, hfc _ _ hb] at e; cases e
        · rw [if_neg ex]; exact hJ.1 x i cc e
      · rw [← hJ.2 x hx]
        funext i
        unfold mmCpy
        rw [if_neg (fun e => by rw [e, z1.2.2] at hx; cases hx)]
  | 26, q =>
    match st, q with
    | v :: r, q => exact mmG_mono (mmG_mono (hk _ _ _ hJ)) q
  | 27, q =>
    match st, q with
    | u :: v :: r, q => exact mmG_mono (fun z => ⟨z.1, hk _ _ _ hJ z.2⟩) q
  | 28, q =>
    match st, q with
    | v :: r, q => exact mmG_mono (hk _ _ _ hJ) q
  | 29, q =>
    match st, q with
    | v :: r, q => exact mmG_mono (hk _ _ _ hJ) q
  | 30, q =>
    match st, q with
    | u :: v :: r, q => exact mmG_mono (fun z => ⟨z.1, hk _ _ _ hJ z.2⟩) q
  | 31, q =>
    match st, q with
    | b :: c :: r, q =>
      show oMath a.toNat k ls (b :: c :: r) h
      have q : oMath a.toNat k' ls (b :: c :: r) h := q
      unfold oMath at q ⊢
      simp only [] at q ⊢
      split at q <;> first
        | exact mmG_mono (hk _ _ _ hJ) q
        | exact mmG_mono (mmG_mono (hk _ _ _ hJ)) q
  | n + 32, q => exact q
theorem mmEx_up (hle : ∀ k i c, fc0 k i = some c → fc k i = some c) (h0 : w 0 = false) (hn0 : hs 0 0 = n0) (hfc : ∀ k i, (sh k).1 = 100 → fc k i = none)
    (hK : ∀ m as h (P P' : Int → mmH → Prop), mmJ fc w hs h → (∀ x h', mmJ fc w hs h' → P' x h' → P x h') → K' m as h P' → K m as h P) (hQ : ∀ x h, mmJ fc w hs h → Q' x h → Q x h) (hX : ∀ i ls st h, mmJ fc w hs h → X' i ls st h → X i ls st h) : ∀ (ops : List mmOp) (ls st : List mmV) (h : mmH), mmJ fc w hs h →
    mmEx sh tg fc w mp K' Q' X' n0 z0 0 0 L xs tx ops ls st h → mmEx sh tg fc0 w mp K Q X n0 z0 0 0 L xs tx ops ls st h
  | [], _, _, _, _, q => q
  | op :: ops, ls, st, h, hJ, q => mmStep_up hle h0 hn0 hfc hK hQ hX op.1 op.2.1 op.2.2 (fun ls st h hJ z => mmEx_up hle h0 hn0 hfc hK hQ hX ops ls st h hJ z) ls st h hJ q
end MRu
section MRv
variable {sh : Int → Nat × Nat} {tg : Nat → Nat → Nat} {fc fc0 : Int → Int → Option Int} {wn : Nat → Int → Bool} {mp : Nat → mmM} {bl : Nat → List (List mmOp)} {nl : Nat → Nat} {tx : List Int}
theorem mmRC_up (hle : ∀ k i c, fc0 k i = some c → fc k i = some c) (hw0 : ∀ m, m ≠ 0 → wn m 0 = false) (hw3 : ∀ k, wn 3 k = false) (hfc : ∀ k i, (sh k).1 = 100 → fc k i = none) :
    ∀ (d mi : Nat) (as : List Int) (h : mmH) (Q : Int → mmH → Prop), (mp mi).2.2.2.2.2 ≠ 0 → mmInv fc h → mmRC sh tg fc wn mp bl nl tx d mi as h Q → mmRC sh tg fc0 wn mp bl nl tx d mi as h (fun x h' => Q x h' ∧ mmJ fc (wn (mp mi).2.2.2.2.2) h h')
  | 0, _, _, _, _, _, _, q => q.elim
  | d + 1, mi, as, h, Q, hm, hI, q => by
    unfold mmRC at q ⊢
    intro X hX
    have hJ0 : mmJ fc (wn (mp mi).2.2.2.2.2) h h := ⟨hI, fun _ _ => rfl⟩
    refine q (fun i ls st h' => mmJ fc (wn (mp mi).2.2.2.2.2) h h' → X i ls st h') (fun i ls st h' z hJ => hX i ls st h' ?_) hJ0
    refine mmEx_up hle (hs := h) (hw0 _ hm) rfl hfc ?_ ?_ (fun i ls st h' hJ y => y hJ) _ _ _ _ hJ z
    · intro mj as' h'' P P' hJ' hP y
      obtain ⟨y1, y2⟩ := mmG_iff.mp y
      refine mmG_iff.mpr ⟨y1, ?_⟩
      have hmj : (mp mj).2.2.2.2.2 ≠ 0 := by
        simp only [Bool.or_eq_true] at y1
        rcases y1 with y1 | y1
        · rw [mm_beq y1]; exact hm
        · rw [mm_beq y1]; omega
      refine mmRC_mono d mj as' h'' _ _ (fun x h3 z3 => hP x h3 ⟨z3.2.1, fun k hk => ?_⟩ z3.1) (mmRC_up hle hw0 hw3 hfc d mj as' h'' P' hmj hJ'.1 y2)
      rw [← hJ'.2 k hk]
      refine z3.2.2 k ?_
      simp only [Bool.or_eq_true] at y1
      rcases y1 with y1 | y1
      · rw [mm_beq y1]; exact hk
      · rw [mm_beq y1]; exact hw3 k
    · intro x h' hJ y
      exact ⟨y, hJ⟩
end MRv
