/-! ===== mm: more is more ===== -/
section MMo
variable {sh : Int → Nat × Nat} {tg : Nat → Nat → Nat} {fc : Int → Int → Option Int} {wn : Int → Bool} {mp : Nat → mmM}
theorem mmG_mono {b : Bool} {P P' : Prop} (h : P → P') : mmG b P → mmG b P' := fun q => mmG_iff.mpr ⟨(mmG_iff.mp q).1, h (mmG_iff.mp q).2⟩
theorem mmTsw_mono {x : Int} {F F' : Nat → Prop} (h : ∀ b, F b → F' b) : ∀ (ts : List Int) (lo : Int), mmTsw x lo ts F → mmTsw x lo ts F'
  | [], _, _ => trivial
  | t :: ts, lo, q => ⟨fun e => h _ (q.1 e), mmTsw_mono h ts (lo + 1) q.2⟩
theorem mmLsw_mono {x : Int} {F F' : Nat → Prop} {D D' : Prop} (h : ∀ b, F b → F' b) (hD : D → D') : ∀ (ts : List Int), mmLsw x ts F D → mmLsw x ts F' D'
  | [], q => hD q
  | [_], q => hD q
  | k :: t :: r, q => ⟨fun e => h _ (q.1 e), fun e => mmLsw_mono h hD r (q.2 e)⟩
variable {K K' : Nat → List Int → mmH → (Int → mmH → Prop) → Prop} {Q Q' : Int → mmH → Prop} {X X' : Nat → mmKont} {n0 z0 mc ms L : Int} {xs : Int → Int} {tx : List Int}
/-- J: what is known of every heap that is met -/
theorem mmStep_mono (hK : ∀ m as h (P P' : Int → mmH → Prop), (∀ x h', P x h' → P' x h') → K m as h P → K' m as h P') (hQ : ∀ x h, Q x h → Q' x h) (hX : ∀ i ls st h, X i ls st h → X' i ls st h) (o : Nat) (a : Int) (l : List Int) {k k' : mmKont} (hk : ∀ ls st h, k ls st h → k' ls st h) (ls st : List mmV) (h : mmH) :
    mmStep sh tg fc wn mp K Q X n0 z0 mc ms L xs tx o a l k ls st h → mmStep sh tg fc wn mp K' Q' X' n0 z0 mc ms L xs tx o a l k' ls st h := by
  intro q
  match o, q with
  | 0, q => exact hk _ _ _ q
  | 1, q => exact mmG_mono (hk _ _ _) q
  | 2, q =>
    match st, q with
    | v :: r, q => exact mmG_mono (hk _ _ _) q
  | 3, q => exact mmG_mono (hk _ _ _) q
  | 4, q =>
    match st, q with
    | b :: c :: r, q => exact mmG_mono (hk _ _ _) q
  | 5, q =>
    match st, q with
    | b :: c :: r, q => exact mmG_mono (hk _ _ _) q
  | 6, q =>
    match st, q with
    | b :: c :: r, q =>
      show oDv a.toNat k' ls (b :: c :: r) h
      have q : oDv a.toNat k ls (b :: c :: r) h := q
      unfold oDv at q ⊢
      simp only [] at q ⊢
      split at q <;> exact mmG_mono (mmG_mono (hk _ _ _)) q
  | 7, q =>
    match st, q with
    | c :: r, q =>
      show oCv a.toNat k' ls (c :: r) h
      have q : oCv a.toNat k ls (c :: r) h := q
      unfold oCv at q ⊢
      simp only [] at q ⊢
      split at q <;> exact mmG_mono (hk _ _ _) q
  | 8, q =>
    match st, q with
    | b :: c :: r, q => exact mmG_mono (hk _ _ _) q
  | 9, q =>
    show oStk a.toNat k' ls st h
    have q : oStk a.toNat k ls st h := q
    unfold oStk at q ⊢
    split at q
    · match st, q with
      | b :: r, q => exact mmG_mono (hk _ _ _) q
    · match st, q with
      | b :: c :: r, q => exact mmG_mono (hk _ _ _) q
    · match st, q with
      | b :: r, q => exact mmG_mono (hk _ _ _) q
  | 10, q =>
    match st, q with
    | v :: r, q => exact mmG_mono (mmG_mono (hk _ _ _)) q
  | 11, q =>
    match st, q with
    | w :: v :: r, q => exact mmG_mono (mmG_mono (hk _ _ _)) q
  | 12, q =>
    match st, q with
    | w :: v :: r, q => exact mmG_mono (mmG_mono (mmG_mono (hk _ _ _))) q
  | 13, q =>
    match st, q with
    | z :: w :: v :: r, q => exact mmG_mono (mmG_mono (mmG_mono (mmG_mono (hk _ _ _)))) q
  | 14, q =>
    match st, q with
    | v :: r, q => exact mmG_mono (mmG_mono (hk _ _ _)) q
  | 15, q =>
    match st, q with
    | v :: r, q => exact mmG_mono (fun z => ⟨fun e => hX _ _ _ _ (z.1 e), fun e => hk _ _ _ (z.2 e)⟩) q
  | 16, q =>
    match st, q with
    | w :: v :: r, q => exact mmG_mono (fun z => ⟨fun e => hX _ _ _ _ (z.1 e), fun e => hk _ _ _ (z.2 e)⟩) q
  | 17, q => exact hX _ _ _ _ q
  | 18, q =>
    match st, l, q with
    | v :: r, d :: ts, q => exact mmG_mono (fun z => ⟨mmTsw_mono (fun b => hX _ _ _ _) ts a z.1, fun e => hX _ _ _ _ (z.2 e)⟩) q
    | v :: r, [], q => exact q
  | 19, q =>
    match st, l, q with
    | v :: r, d :: ts, q => exact mmG_mono (mmLsw_mono (fun b => hX _ _ _ _) (hX _ _ _ _) ts) q
    | v :: r, [], q => exact q
  | 20, q =>
    show oRet Q' a.toNat ls st h
    have q : oRet Q a.toNat ls st h := q
    unfold oRet at q ⊢
    split at q
    · match st, q with
      | [], q => exact hQ _ _ q
    · match st, q with
      | [v], q => exact mmG_mono (mmG_mono (hQ _ _)) q
    · match st, q with
      | [v], q => exact mmG_mono (hQ _ _) q
  | 21, q =>
    show oCall sh mp K' n0 z0 mc ms a.toNat k' ls st h
    have q : oCall sh mp K n0 z0 mc ms a.toNat k ls st h := q
    unfold oCall at q ⊢
    split at q
    · exact q.elim
    · exact mmG_mono (mmG_mono (mmG_mono (hK _ _ _ _ _ (fun x h' => hk _ _ _)))) q
  | 22, q => exact ⟨q.1, q.2.1, hk _ _ _ q.2.2⟩
  | 23, q =>
    match st, q with
    | v :: r, q => exact mmG_mono (fun z => ⟨z.1, z.2.1, hk _ _ _ z.2.2⟩) q
  | 24, q =>
    match st, q with
    | w :: v :: r, q => exact mmG_mono (fun z => ⟨z.1, z.2.1, z.2.2.1, z.2.2.2.1, hk _ _ _ z.2.2.2.2⟩) q
  | 25, q =>
    match st, q with
    | n :: dp :: b :: sp :: c :: r, q => exact mmG_mono (mmG_mono (mmG_mono (hk _ _ _))) q
  | 26, q =>
    match st, q with
    | v :: r, q => exact mmG_mono (mmG_mono (hk _ _ _)) q
  | 27, q =>
    match st, q with
    | w :: v :: r, q => exact mmG_mono (fun z => ⟨z.1, hk _ _ _ z.2⟩) q
  | 28, q =>
    match st, q with
    | v :: r, q => exact mmG_mono (hk _ _ _) q
  | 29, q =>
    match st, q with
    | v :: r, q => exact mmG_mono (hk _ _ _) q
  | 30, q =>
    match st, q with
    | w :: v :: r, q => exact mmG_mono (fun z => ⟨z.1, hk _ _ _ z.2⟩) q
  | 31, q =>
    match st, q with
    | b :: c :: r, q =>
      show oMath a.toNat k' ls (b :: c :: r) h
      have q : oMath a.toNat k ls (b :: c :: r) h := q
      unfold oMath at q ⊢
      simp only [] at q ⊢
      split at q <;> first
        | exact mmG_mono (hk _ _ _) q
        | exact mmG_mono (mmG_mono (hk _ _ _)) q
  | n + 32, q => exact q
theorem mmEx_mono (hK : ∀ m as h (P P' : Int → mmH → Prop), (∀ x h', P x h' → P' x h') → K m as h P → K' m as h P') (hQ : ∀ x h, Q x h → Q' x h) (hX : ∀ i ls st h, X i ls st h → X' i ls st h) : ∀ (ops : List mmOp) (ls st : List mmV) (h : mmH),
    mmEx sh tg fc wn mp K Q X n0 z0 mc ms L xs tx ops ls st h → mmEx sh tg fc wn mp K' Q' X' n0 z0 mc ms L xs tx ops ls st h
  | [], _, _, _, q => q
  | op :: ops, ls, st, h, q => mmStep_mono hK hQ hX op.1 op.2.1 op.2.2 (fun ls st h => mmEx_mono hK hQ hX ops ls st h) ls st h q
end MMo
section MMw
variable {sh : Int → Nat × Nat} {tg : Nat → Nat → Nat} {fc : Int → Int → Option Int} {mp : Nat → mmM} {tx : List Int}
variable {K : Nat → List Int → mmH → (Int → mmH → Prop) → Prop} {Q Q' : Int → mmH → Prop} {w : Int → Bool} {blks : List (List mmOp)} {n0 z0 mc ms L : Int} {xs : Int → Int}
theorem mmWb_mono (hQ : ∀ x h, Q x h → Q' x h) (hK : ∀ m as h (P P' : Int → mmH → Prop), (∀ x h', P x h' → P' x h') → K m as h P → K m as h P') {i : Nat} {ls st : List mmV} {h : mmH} (q : mmWb sh tg fc mp tx K Q w blks n0 z0 mc ms L xs i ls st h) : mmWb sh tg fc mp tx K Q' w blks n0 z0 mc ms L xs i ls st h :=
  fun X hX => q X fun i ls st h z => hX i ls st h (mmEx_mono (K := K) (K' := K) hK hQ (fun _ _ _ _ y => y) _ _ _ _ z)
theorem mmWb_fold (hK : ∀ m as h (P P' : Int → mmH → Prop), (∀ x h', P x h' → P' x h') → K m as h P → K m as h P') {i : Nat} {ls st : List mmV} {h : mmH} (q : mmEx sh tg fc w mp K Q (mmWb sh tg fc mp tx K Q w blks n0 z0 mc ms L xs) n0 z0 mc ms L xs tx (blks.getD i []) ls st h) : mmWb sh tg fc mp tx K Q w blks n0 z0 mc ms L xs i ls st h :=
  fun X hX => hX i ls st h (mmEx_mono (K := K) (K' := K) hK (fun _ _ y => y) (fun j ls st h z => z X hX) _ _ _ _ q)
/-- blocks unrolled, but at cuts -/
def mmXn (sh : Int → Nat × Nat) (tg : Nat → Nat → Nat) (fc : Int → Int → Option Int) (mp : Nat → mmM) (tx : List Int) (K : Nat → List Int → mmH → (Int → mmH → Prop) → Prop) (Q : Int → mmH → Prop) (w : Int → Bool) (blks : List (List mmOp)) (n0 z0 mc ms L : Int) (xs : Int → Int) (cut : Nat → Bool) : Nat → Nat → mmKont
  | 0, i => mmWb sh tg fc mp tx K Q w blks n0 z0 mc ms L xs i
  | f + 1, i => match cut i with
    | true => mmWb sh tg fc mp tx K Q w blks n0 z0 mc ms L xs i
    | false => mmEx sh tg fc w mp K Q (mmXn sh tg fc mp tx K Q w blks n0 z0 mc ms L xs cut f) n0 z0 mc ms L xs tx (blks.getD i [])
theorem mmXn_ok (hK : ∀ m as h (P P' : Int → mmH → Prop), (∀ x h', P x h' → P' x h') → K m as h P → K m as h P') {cut : Nat → Bool} : ∀ (f i : Nat) (ls st : List mmV) (h : mmH), mmXn sh tg fc mp tx K Q w blks n0 z0 mc ms L xs cut f i ls st h → mmWb sh tg fc mp tx K Q w blks n0 z0 mc ms L xs i ls st h
  | 0, i, ls, st, h, q => q
  | f + 1, i, ls, st, h, q => by
    unfold mmXn at q
    cases e : cut i with
    | true => rw [e] at q; exact q
    | false =>
      rw [e] at q
      exact mmWb_fold hK (mmEx_mono (K := K) (K' := K) hK (fun _ _ y => y) (fun j ls st h z => mmXn_ok hK f j ls st h z) _ _ _ _ q)
variable {wn : Nat → Int → Bool} {bl : Nat → List (List mmOp)} {nl : Nat → Nat}
theorem mmC_mono : ∀ (d m : Nat) (as : List Int) (h : mmH) (P P' : Int → mmH → Prop), (∀ x h', P x h' → P' x h') → mmC sh tg fc wn mp bl nl tx d m as h P → mmC sh tg fc wn mp bl nl tx d m as h P'
  | 0, _, _, _, _, _, _, q => q
  | d + 1, m, as, h, P, P', hp, q => mmWb_mono (fun x h' z => ⟨z.1, hp x h' z.2⟩) (mmC_mono d) q
theorem mmC_succ : ∀ (d m : Nat) (as : List Int) (h : mmH) (P : Int → mmH → Prop), mmC sh tg fc wn mp bl nl tx d m as h P → mmC sh tg fc wn mp bl nl tx (d + 1) m as h P
  | 0, _, _, _, _, q => q.elim
  | d + 1, m, as, h, P, q => fun X hX => q X fun i ls st h z => hX i ls st h (mmEx_mono (fun m as h P P' hp y => mmC_mono (d + 1) m as h P P' hp (mmC_succ d m as h P y)) (fun _ _ y => y) (fun _ _ _ _ y => y) _ _ _ _ z)
theorem mmC_le {d d' m : Nat} {as : List Int} {h : mmH} {P : Int → mmH → Prop} (hd : d ≤ d') (q : mmC sh tg fc wn mp bl nl tx d m as h P) : mmC sh tg fc wn mp bl nl tx d' m as h P := by
  obtain ⟨k, rfl⟩ := Nat.exists_eq_add_of_le hd
  induction k with
  | zero => exact q
  | succ k ih => exact mmC_succ _ _ _ _ _ (ih (by omega))
end MMw
