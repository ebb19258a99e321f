/-! ===== mm: this program's run ===== -/
abbrev rC (d : Nat) : Nat → List Int → mmH → (Int → mmH → Prop) → Prop := mmRC tSh tTg tFc tWn tMp tBl tL tTx0 d
abbrev rB (d mi : Nat) (n0 z0 : Int) (Q : Int → mmH → Prop) : Nat → mmKont := mmWb tSh tTg tFc tMp tTx0 (mmKm tMp (rC d) mi) Q (tWn (tMp mi).2.2.2.2.2) (tBl mi) n0 z0 0 0 0 (fun _ => 0)
theorem rK_mono (d mi : Nat) : ∀ m as h (P P' : Int → mmH → Prop), (∀ x h', P x h' → P' x h') → mmKm tMp (rC d) mi m as h P → mmKm tMp (rC d) mi m as h P' := fun m as h P P' hp z => mmG_mono (mmRC_mono d m as h P P' hp) z
theorem rB_fold {d mi : Nat} {n0 z0 : Int} {Q : Int → mmH → Prop} {cut : Nat → Bool} {f i : Nat} {ls st : List mmV} {h : mmH} (hy : mmEx tSh tTg tFc (tWn (tMp mi).2.2.2.2.2) tMp (mmKm tMp (rC d) mi) Q (mmXn tSh tTg tFc tMp tTx0 (mmKm tMp (rC d) mi) Q (tWn (tMp mi).2.2.2.2.2) (tBl mi) n0 z0 0 0 0 (fun _ => 0) cut f) n0 z0 0 0 0 (fun _ => 0) tTx0 ((tBl mi).getD i []) ls st h) : rB d mi n0 z0 Q i ls st h :=
  mmWb_fold (rK_mono d mi) (mmEx_mono (rK_mono d mi) (fun _ _ y => y) (fun j ls st h z => mmXn_ok (rK_mono d mi) f j ls st h z) _ _ _ _ hy)
theorem rC_intro {d mi : Nat} {as : List Int} {h : mmH} {Q : Int → mmH → Prop} (q : rB d mi (h 0 0) (h 0 1) Q 0 (mmIl (tMp mi).1.reverse as (tL mi)) [] h) : rC (d + 1) mi as h Q := q
theorem rC_mono {d mi : Nat} {as : List Int} {h : mmH} {P P' : Int → mmH → Prop} (q : rC d mi as h P) (hp : ∀ x h', P x h' → P' x h') : rC d mi as h P' := mmRC_mono d mi as h P P' hp q
theorem rC_le {d d' mi : Nat} {as : List Int} {h : mmH} {P : Int → mmH → Prop} (hd : d ≤ d') (q : rC d mi as h P) : rC d' mi as h P := mmRC_le hd q
theorem rB_mono {d mi i : Nat} {n0 z0 : Int} {ls st : List mmV} {h : mmH} {P P' : Int → mmH → Prop} (q : rB d mi n0 z0 P i ls st h) (hp : ∀ x h', P x h' → P' x h') : rB d mi n0 z0 P' i ls st h := mmWb_mono hp (rK_mono d mi) q
/-- the rest of a block, from its i-th op on -/
abbrev rD (d mi : Nat) (n0 z0 : Int) (Q : Int → mmH → Prop) (cut : Nat → Bool) (b i : Nat) : mmKont := mmEx tSh tTg tFc (tWn (tMp mi).2.2.2.2.2) tMp (mmKm tMp (rC d) mi) Q (mmXn tSh tTg tFc tMp tTx0 (mmKm tMp (rC d) mi) Q (tWn (tMp mi).2.2.2.2.2) (tBl mi) n0 z0 0 0 0 (fun _ => 0) cut 40) n0 z0 0 0 0 (fun _ => 0) tTx0 (((tBl mi).getD b []).drop i)
