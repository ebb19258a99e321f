/-! ===== mm: rows of numbers ===== -/
section MR4
variable {sh : Int → Nat × Nat} {tg : Nat → Nat → Nat} {B b g : Nat} {aC : Nat → ClassId} {p : Program} {l : Launch} {e : Env} {R : Room} {s : State} {m : MethodId} {args : Array Value} {below : List Frame} {meth : Method} {c : Code} {H0 : Heap} {D : va_G} {cl : List vw_C} {nL n0 z0 : Nat} {Qm : State → Prop}
variable {pc : Nat} {k : mmKont} {cc : ByteArray} {wn : Int → Bool}
def mmKt : Nat → FieldType
  | 0 => .int
  | 1 => .long
  | 2 => .char
  | 3 => .boolean
  | 4 => .array .int
  | _ => .object "TileHeel$Roofs"
theorem mmAr_cell (cA : ClassId) (n kd : Nat) (f : Int → Int) : vp_cell cA (n, mmAr B kd f) = arrV cA n (fun j : Nat => mmVal B b g (mmEt kd, f j)) := by
  match kd with
  | 0 => rfl
  | 1 => rfl
  | 2 => rfl
  | 3 => rfl
  | 4 =>
    show arrV cA n (fun j : Nat => va_rf (if f j = 0 then none else some (B + (f j).toNat))) = _
    congr 1
    funext j
    by_cases e : f j = 0 <;> simp [va_rf, mmVal, mmEt, e]
  | 5 =>
    show arrV cA n (fun j : Nat => va_rf (if f j = 0 then none else some (B + (f j).toNat))) = _
    congr 1
    funext j
    by_cases e : f j = 0 <;> simp [va_rf, mmVal, mmEt, e]
  | n + 6 => rfl
/-- the row of numbers that is at a cell -/
theorem mm_arr {h : mmH} {H : Heap} {locs : List Loc} {x : Int} {kd : Nat} (hW : mmWH sh tg B b g aC D cl H0 h H locs) (g1 : 1 ≤ x) (g2 : x < h 0 0) (h1 : (sh x).1 = 100 + kd) : H[B + x.toNat]? = some (arrV (aC kd) (sh x).2 (fun j : Nat => mmVal B b g (mmEt kd, h x j))) := by
  have he := mmWs_get sh tg B b g aC g1 g2
  rw [mmE_a h1] at he
  have := hW.1 _ _ he
  rw [← mmAr_cell]
  exact this
theorem ks_ald (hx : p.tables.exec = Jvm.exec) (hb : c.code = cc) {kd : Nat} {tys : List (ClassId × FieldType)} (hK : va_K D cl tys s) (hs0 : (sh 0).1 = 99) (hty : tys[kd]? = some (aC kd, mmKt kd))
    (hd : (kd = 0 ∧ decode cc pc = .ok (.iaload, 1)) ∨ (kd = 1 ∧ decode cc pc = .ok (.laload, 1)) ∨ (kd = 2 ∧ decode cc pc = .ok (.caload, 1)) ∨ (kd = 3 ∧ decode cc pc = .ok (.baload, 1)) ∨ (kd = 4 ∧ decode cc pc = .ok (.aaload, 1)) ∨ (kd = 5 ∧ decode cc pc = .ok (.aaload, 1)))
    (hk : mmKS sh tg B b g aC p l e R s m args below meth c H0 D cl nL n0 z0 Qm (pc + 1) k) : mmKS sh tg B b g aC p l e R s m args below meth c H0 D cl nL n0 z0 Qm pc (oAld sh (fun _ _ => none) kd k) := by
  intro ls st h H locs lsA hp hA
  match st, hp, hA with
  | ⟨ti, i⟩ :: ⟨t, x⟩ :: r, hp, hA =>
    obtain ⟨ht, hp⟩ := mmG_iff.mp hp
    obtain ⟨hg1, hp⟩ := mmG_iff.mp hp
    obtain ⟨⟨h2, h3⟩, hp⟩ := mmD_iff.mp hp
    have h1 : (sh x).1 = 100 + kd := mm_beq hg1
    simp only [Bool.and_eq_true] at ht
    have e1 : t = 3 := mm_beq ht.2
    have e2 : ti = 1 := mm_beq ht.1
    subst e1; subst e2
    simp only [] at h1 h2 h3 hp
    have hs := hA.okS
    obtain ⟨g1, g2, g3⟩ := mm_pos (B := B) (b := b) (g := g) hs0 (mm_head (mm_tail hs)) h1 (by omega)
    have hW := hA.wh
    obtain ⟨hlen, hcont⟩ := hW.2.2.2.2.2 x g1 g2
    have hcell := mm_arr hW g1 g2 h1
    have hok : mmOk (h 0 0) (mmEt kd, h x i) := by
      have := hcont i.toNat (by omega)
      rw [mmTg_a h1] at this
      have e : ((i.toNat : Nat) : Int) = i := by omega
      rw [e] at this
      exact this
    have hin : ¬ (Int32.ofInt i < 0 ∨ (arrV (aC kd) (sh x).2 (fun j : Nat => mmVal B b g (mmEt kd, h x j))).slots.size ≤ (Int32.ofInt i).toNatClampNeg) := by
      rw [arrV_size]
      exact mm_in h2 (by omega) hlen
    have hv : (arrV (aC kd) (sh x).2 (fun j : Nat => mmVal B b g (mmEt kd, h x j))).slots[(Int32.ofInt i).toNatClampNeg]? = some (mmVal B b g (mmEt kd, h x i)) := by
      rw [mm_cl h2 (by omega), arrV_read _ _ (by omega)]
      have e : ((i.toNat : Nat) : Int) = i := by omega
      rw [e]
    have hAr : ArrOfT s (aC kd) (mmKt kd) := (hK.2 kd _ hty).1
    have h4 := hk ls _ h H locs lsA hp (hA.stk (mm_cons hok (mm_tail (mm_tail hs))))
    rw [List.map_cons, List.map_cons, g3]
    rw [List.map_cons] at h4
    rcases hd with ⟨rfl, hd⟩ | ⟨rfl, hd⟩ | ⟨rfl, hd⟩ | ⟨rfl, hd⟩ | ⟨rfl, hd⟩ | ⟨rfl, hd⟩
    · exact W.iald hx hb hcell (hAr _ _) (fun q => by cases q) hin hv rfl rfl hd h4
    · exact W.lald hx hb hcell (hAr _ _) (fun q => by cases q) hin hv rfl rfl hd h4
    · exact W.cald hx hb hcell (hAr _ _) (fun q => by cases q) hin hv rfl rfl hd h4
    · exact W.zald hx hb hcell (hAr _ _) (fun q => by cases q) hin hv rfl rfl hd h4
    · exact W.aald hx hb hcell (hAr _ _) rfl (fun q => by cases q) hin hv rfl rfl hd h4
    · exact W.aald hx hb hcell (hAr _ _) rfl (fun q => by cases q) hin hv rfl rfl hd h4
theorem mm_nN {x : Int} (h : 0 ≤ x) : Int32.ofInt x = nI x.toNat := by
  have e : x = ((x.toNat : Nat) : Int) := by omega
  rw [e]
  exact Int32.ofInt_eq_ofNat
theorem ks_ast (hx : p.tables.exec = Jvm.exec) (hb : c.code = cc) {kd : Nat} {rT : u_T} {rN : Nat} {tys : List (ClassId × FieldType)} (hK : va_K D cl tys s) (hs0 : (sh 0).1 = 99) (hty : tys[kd]? = some (aC kd, mmKt kd))
    (hr4 : cl[4]? = some ("TileHeel$Roofs", rT, rN)) (hsh4 : ∀ x, (sh x).1 = 4 → (sh x).2 = rN)
    (hd : (kd = 0 ∧ decode cc pc = .ok (.iastore, 1)) ∨ (kd = 1 ∧ decode cc pc = .ok (.lastore, 1)) ∨ (kd = 2 ∧ decode cc pc = .ok (.castore, 1)) ∨ (kd = 3 ∧ decode cc pc = .ok (.bastore, 1)) ∨ (kd = 5 ∧ decode cc pc = .ok (.aastore, 1)))
    (hk : mmKS sh tg B b g aC p l e R s m args below meth c H0 D cl nL n0 z0 Qm (pc + 1) k) : mmKS sh tg B b g aC p l e R s m args below meth c H0 D cl nL n0 z0 Qm pc (oAst sh (fun _ _ => none) wn kd k) := by
  intro ls st h H locs lsA hp hA
  match st, hp, hA with
  | ⟨tv, v⟩ :: ⟨ti, i⟩ :: ⟨t, x⟩ :: r, hp, hA =>
    obtain ⟨ht, hp⟩ := mmG_iff.mp hp
    obtain ⟨hg1, hp⟩ := mmG_iff.mp hp
    obtain ⟨⟨h2, h3⟩, hp⟩ := mmD_iff.mp hp
    obtain ⟨hf, hp⟩ := mmG_iff.mp hp
    simp only [Bool.and_eq_true] at hg1
    have h1 : (sh x).1 = 100 + kd := mm_beq hg1.1
    simp only [Bool.and_eq_true] at ht
    have e1 : t = 3 := mm_beq ht.2.2
    have e2 : ti = 1 := mm_beq ht.2.1
    have e3 : tv = mmEt kd := mm_beq ht.1
    subst e1; subst e2; subst e3
    simp only [] at h1 h2 h3 hf hp
    have hs := hA.okS
    obtain ⟨g1, g2, g3⟩ := mm_pos (B := B) (b := b) (g := g) hs0 (mm_head (mm_tail (mm_tail hs))) h1 (by omega)
    have hW := hA.wh
    obtain ⟨hlen, hcont⟩ := hW.2.2.2.2.2 x g1 g2
    have hcell := mm_arr hW g1 g2 h1
    have hin : ¬ (Int32.ofInt i < 0 ∨ (arrV (aC kd) (sh x).2 (fun j : Nat => mmVal B b g (mmEt kd, h x j))).slots.size ≤ (Int32.ofInt i).toNatClampNeg) := by
      rw [arrV_size]
      exact mm_in h2 (by omega) hlen
    have hAr : ArrOfT s (aC kd) (mmKt kd) := (hK.2 kd _ hty).1
    have hvok : mmOk (h 0 0) (mmEt kd, v) := mm_head hs
    have ei : (Int32.ofInt i).toNatClampNeg = i.toNat := mm_cl h2 (by omega)
    have ez : ((i.toNat : Nat) : Int) = i := by omega
    have key : ∀ H' : Heap, H'[B + x.toNat]? = some ((arrV (aC kd) (sh x).2 (fun j : Nat => mmVal B b g (mmEt kd, h x j))).setSlot (Int32.ofInt i).toNatClampNeg (mmVal B b g (mmEt kd, v))) → H'.size = H.size → (∀ q, q ≠ B + x.toNat → H'[q]? = H[q]?) →
        W p l e R s m args below meth c H' (locs ++ [⟨B + x.toNat, (Int32.ofInt i).toNatClampNeg⟩]) ((h 0 0).toNat - n0) ((h 0 1).toNat - z0) Qm (F0 m (pc + 1) lsA (r.map (mmVal B b g))) := by
      intro H' f1 f2 f3
      have hat : va_at D cl (B + x.toNat, mmE sh tg B b g aC x (mmS h x i.toNat v x)) H' := by
        rw [mmE_a h1]
        show H'[B + x.toNat]? = some (vp_cell _ _)
        rw [mmAr_cell (b := b) (g := g), f1, arrV_store, ei]
        congr 2
        funext j
        unfold updV
        by_cases hj : j = i.toNat
        · rw [if_pos hj, hj, mmS_self]
        · rw [if_neg hj, mmS_slot, if_neg (by omega)]
      have e0 : mmS h x i v 0 0 = h 0 0 := mmS_cell (by omega)
      have e1 : mmS h x i v 0 1 = h 0 1 := mmS_cell (by omega)
      have hp2 := hA.put (st' := r) (j := (Int32.ofInt i).toNatClampNeg) (i := i.toNat) (v := v) g1 g2 f2 f3 hat (by rw [mmTg_a h1]; exact hvok) (mm_tail (mm_tail (mm_tail hs)))
      rw [ez] at hp2
      have := hk ls r _ H' _ lsA hp hp2
      rw [e0, e1] at this
      exact this
    rw [List.map_cons, List.map_cons, List.map_cons, g3]
    rcases hd with ⟨rfl, hd⟩ | ⟨rfl, hd⟩ | ⟨rfl, hd⟩ | ⟨rfl, hd⟩ | ⟨rfl, hd⟩
    · exact W.iast hx hb hcell (hAr _ _) (fun q => by cases q) hin rfl rfl hd key
    · exact W.last hx hb hcell (hAr _ _) (fun q => by cases q) hin rfl rfl hd key
    · refine W.cast hx hb hcell (hAr _ _) (fun q => by cases q) hin rfl rfl hd ?_
      obtain ⟨hf1, hf2⟩ := of_decide_eq_true (show decide (0 ≤ v ∧ v < 65536) = true from hf)
      have en : narrow .char (.int (Int32.ofInt v)) = .int (Int32.ofInt v) := by
        rw [mm_nN hf1]
        exact (pk_charN (by omega)).1
      rw [en]
      exact key
    · refine W.zast hx hb hcell (hAr _ _) (fun q => by cases q) hin rfl rfl hd ?_
      have en : narrow .boolean (.int (Int32.ofInt v)) = .int (Int32.ofInt v) := by
        rcases of_decide_eq_true (show decide (v = 0 ∨ v = 1) = true from hf) with hf | hf
        · have : v = 0 := hf
          subst this
          decide
        · have : v = 1 := hf
          subst this
          decide
      rw [en]
      exact key
    · have hf2 : (sh v).1 = 4 := mm_beq hf
      obtain ⟨v1, v2, v3⟩ := mm_pos (B := B) (b := b) (g := g) hs0 hvok hf2 (by omega)
      have hev := mmWs_get sh tg B b g aC v1 v2
      rw [mmE_o hf2 (by omega) (hsh4 v hf2)] at hev
      obtain ⟨r', hr', cellV, c1, c2, c3, -⟩ := hW.1 _ _ hev
      have hcls := (hK.1 4 _ hr4).2
      obtain ⟨kA, comp, k1, k2, k3, -⟩ := (hK.2 5 _ hty).2
      have hcomp : comp = D.1 4 := Option.some.inj (k3.symm.trans hcls.1)
      subst hcomp
      obtain ⟨kC, hkC, -⟩ := hcls.2
      have v3' : mmVal B b g (mmEt 5, v) = .ref (B + v.toNat) := v3
      rw [v3'] at key ⊢
      refine W.aast hx hb hcell (fun q h => by cases h) (fun h => by cases h) k1 k2 rfl hkC ⟨fun q => hin (Or.inl q), ?_⟩ c1 (fun q h => by rw [c3] at h; cases h) (by rw [c2]; exact hkC) (by rw [c2]; exact va_assign hcls) rfl rfl hd key
      exact Nat.not_le.mp (fun q => hin (Or.inr q))
theorem ks_len (hx : p.tables.exec = Jvm.exec) (hb : c.code = cc) {tys : List (ClassId × FieldType)} (hK : va_K D cl tys s) (hs0 : (sh 0).1 = 99) (hty : ∀ x, 100 ≤ (sh x).1 → ∃ ty, tys[(sh x).1 - 100]? = some (aC ((sh x).1 - 100), ty)) (hd : decode cc pc = .ok (.arraylength, 1))
    (hk : mmKS sh tg B b g aC p l e R s m args below meth c H0 D cl nL n0 z0 Qm (pc + 1) k) : mmKS sh tg B b g aC p l e R s m args below meth c H0 D cl nL n0 z0 Qm pc (oLen sh k) := by
  intro ls st h H locs lsA hp hA
  match st, hp, hA with
  | ⟨t, x⟩ :: r, hp, hA =>
    obtain ⟨ht, hp⟩ := mmG_iff.mp hp
    obtain ⟨hg1, hp⟩ := mmG_iff.mp hp
    have h1 : 100 ≤ (sh x).1 := mm_ble hg1
    have e1 : t = 3 := mm_beq ht
    subst e1
    simp only [] at h1 hp
    have hs := hA.okS
    obtain ⟨g1, g2, g3⟩ := mm_pos (B := B) (b := b) (g := g) hs0 (mm_head hs) rfl (by omega)
    have hW := hA.wh
    obtain ⟨hlen, -⟩ := hW.2.2.2.2.2 x g1 g2
    have hcell := mm_arr (kd := (sh x).1 - 100) hW g1 g2 (by omega)
    obtain ⟨ty, hty⟩ := hty x h1
    have hAr := (hK.2 _ _ hty).1
    have h4 := hk ls _ h H locs lsA hp (hA.stk (mm_cons (show mmOk (h 0 0) (1, ((sh x).2 : Int)) from ⟨by show _ ≤ ((sh x).2 : Int); omega, by show ((sh x).2 : Int) < _; omega⟩) (mm_tail hs)))
    rw [List.map_cons] at h4 ⊢
    rw [g3]
    refine W.alen hx hb hcell (hAr _ _) ?_ rfl rfl hd h4
    rw [arrV_size]
    exact Int32.ofInt_eq_ofNat.symm
end MR4
