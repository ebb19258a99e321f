/-! ===== mm: fields and rows of numbers ===== -/
section MR3
variable {sh : Int → Nat × Nat} {tg : Nat → Nat → Nat} {B b g : Nat} {aC : Nat → ClassId} {p : Program} {l : Launch} {e : Env} {R : Room} {s : State} {m : MethodId} {args : Array Value} {below : List Frame} {meth : Method} {c : Code} {H0 : Heap} {D : va_G} {cl : List vw_C} {nL n0 z0 : Nat} {Qm : State → Prop}
variable {pc : Nat} {k : mmKont} {cc : ByteArray} {wn : Int → Bool}
theorem mmWH.put {h : mmH} {H H' : Heap} {locs : List Loc} {x v : Int} {i j : Nat} (hW : mmWH sh tg B b g aC D cl H0 h H locs) (h1 : 1 ≤ x) (h2 : x < h 0 0) (z : H'.size = H.size) (oq : ∀ q : Nat, q ≠ B + x.toNat → H'[q]? = H[q]?)
    (hat : va_at D cl (B + x.toNat, mmE sh tg B b g aC x (mmS h x i v x)) H') (hv : mmOk (h 0 0) (mmTg sh tg x i, v)) : mmWH sh tg B b g aC D cl H0 (mmS h x i v) H' (locs ++ [⟨B + x.toNat, j⟩]) := by
  obtain ⟨w1, w2, w3, w4⟩ := hW
  have e0 : mmS h x i v 0 0 = h 0 0 := mmS_cell (by omega)
  refine ⟨?_, by rw [z, w2, e0], w3.put z oq ?_, mmOkH_put sh tg w4 h1 hv⟩
  · rw [← mmWs_put sh tg B b g aC h1 h2 rfl rfl]
    exact w1.set (mmWs_D sh tg B b g aC h) (mmWs_get sh tg B b g aC h1 h2) hat oq
  · show B + 1 ≤ B + x.toNat
    omega
theorem mmIn.put {ls st st' : List mmV} {h : mmH} {H H' : Heap} {locs : List Loc} {lsA : Array Slot} {x v : Int} {i j : Nat} (hA : mmIn sh tg B b g aC R H0 D cl nL n0 z0 ls st h H locs lsA) (h1 : 1 ≤ x) (h2 : x < h 0 0) (z : H'.size = H.size) (oq : ∀ q : Nat, q ≠ B + x.toNat → H'[q]? = H[q]?)
    (hat : va_at D cl (B + x.toNat, mmE sh tg B b g aC x (mmS h x i v x)) H') (hv : mmOk (h 0 0) (mmTg sh tg x i, v)) (hs : ∀ w ∈ st', mmOk (h 0 0) w) : mmIn sh tg B b g aC R H0 D cl nL n0 z0 ls st' (mmS h x i v) H' (locs ++ [⟨B + x.toNat, j⟩]) lsA := by
  have e0 : mmS h x i v 0 0 = h 0 0 := mmS_cell (by omega)
  have e1 : mmS h x i v 0 1 = h 0 1 := mmS_cell (by omega)
  exact ⟨hA.1, hA.2.1, by rw [e0]; exact hA.2.2.1, by rw [e0]; exact hs, hA.2.2.2.2.1.put h1 h2 z oq hat hv, by rw [e0]; exact hA.2.2.2.2.2.1, by rw [e1]; exact hA.2.2.2.2.2.2.1, by rw [e0]; exact hA.2.2.2.2.2.2.2.1, by rw [e1]; exact hA.2.2.2.2.2.2.2.2⟩
theorem mmIn.wh {ls st : List mmV} {h : mmH} {H : Heap} {locs : List Loc} {lsA : Array Slot} (hA : mmIn sh tg B b g aC R H0 D cl nL n0 z0 ls st h H locs lsA) : mmWH sh tg B b g aC D cl H0 h H locs := hA.2.2.2.2.1
theorem mmIn.okS {ls st : List mmV} {h : mmH} {H : Heap} {locs : List Loc} {lsA : Array Slot} (hA : mmIn sh tg B b g aC R H0 D cl nL n0 z0 ls st h H locs lsA) : ∀ v ∈ st, mmOk (h 0 0) v := hA.2.2.2.1
/-- a cell that is there -/
theorem mm_pos {n x : Int} {r : Nat} (hs0 : (sh 0).1 = 99) (ho : mmOk n (3, x)) (hr : (sh x).1 = r) (h9 : r ≠ 99) : 1 ≤ x ∧ x < n ∧ mmVal B b g (3, x) = .ref (B + x.toNat) := by
  have h1 : 0 ≤ x := ho.1
  have h2 : x < n := ho.2
  have h0 : x ≠ 0 := fun q => by rw [q, hs0] at hr; exact h9 hr.symm
  refine ⟨by omega, h2, ?_⟩
  simp only [mmVal, h0, if_false]
theorem mmE_o {x : Int} {f : Int → Int} {ci N : Nat} (h1 : (sh x).1 = ci) (hci : ci < 99) (hN : (sh x).2 = N) : mmE sh tg B b g aC x f = .inr (ci, (List.range N).map (fun s : Nat => mmVal B b g (tg ci s, f s))) := by
  unfold mmE
  rw [if_pos (by omega), h1, hN]
theorem mmE_a {x : Int} {f : Int → Int} {kd : Nat} (h1 : (sh x).1 = 100 + kd) : mmE sh tg B b g aC x f = .inl (aC kd, (sh x).2, mmAr B kd f) := by
  unfold mmE
  rw [if_neg (by omega), h1]
  have : 100 + kd - 100 = kd := by omega
  rw [this]
theorem mmTg_o {x : Int} {i ci : Nat} (h1 : (sh x).1 = ci) (hci : ci < 99) : mmTg sh tg x i = tg ci i := by
  unfold mmTg
  rw [if_pos (by omega), h1]
theorem mmTg_a {x : Int} {i kd : Nat} (h1 : (sh x).1 = 100 + kd) : mmTg sh tg x i = mmEt kd := by
  unfold mmTg
  rw [if_neg (by omega), h1]
  have : 100 + kd - 100 = kd := by omega
  rw [this]
theorem ks_get (hx : p.tables.exec = Jvm.exec) (hb : c.code = cc) {own C : String} {T : u_T} {ci N f index : Nat} {Ts : List Cond} {tys : List (ClassId × FieldType)} (hts : ∀ w ∈ Ts, w.before args s = true) (hin : ∀ w ∈ u_ws C T N, w ∈ Ts) (hown : s.vm.findClass own = some m.cls) (hK : va_K D cl tys s)
    (hc : cl[ci]? = some (C, T, N)) (hci : ci < 99) (hsh : ∀ x, (sh x).1 = ci → (sh x).2 = N) (hs0 : (sh 0).1 = 99) (hf : f < N) (hlink : (Cond.fieldLink own index (T f).1 (T f).2.1 (T f).2.2.1).before args s = true) (hd : decode cc pc = .ok (.getfield index, 3))
    (hk : mmKS sh tg B b g aC p l e R s m args below meth c H0 D cl nL n0 z0 Qm (pc + 3) k) : mmKS sh tg B b g aC p l e R s m args below meth c H0 D cl nL n0 z0 Qm pc (oGet sh tg (fun _ _ => none) ci f k) := by
  intro ls st h H locs lsA hp hA
  match st, hp, hA with
  | ⟨t, x⟩ :: r, hp, hA =>
    obtain ⟨ht, hp⟩ := mmG_iff.mp hp
    obtain ⟨hg1, hp⟩ := mmG_iff.mp hp
    have h1 : (sh x).1 = ci := mm_beq hg1
    have e1 : t = 3 := mm_beq ht
    subst e1
    simp only [] at h1 hp
    have hs := hA.okS
    obtain ⟨g1, g2, g3⟩ := mm_pos (B := B) (b := b) (g := g) hs0 (mm_head hs) h1 (by omega)
    have hW := hA.wh
    have he := mmWs_get sh tg B b g aC g1 g2
    rw [mmE_o h1 hci (hsh x h1)] at he
    have hok : mmOk (h 0 0) (tg ci f, h x f) := by
      have := (hW.2.2.2.2.2 x g1 g2).2 f (by rw [hsh x h1]; exact hf)
      rw [mmTg_o h1 hci] at this
      exact this
    rw [List.map_cons, g3]
    exact va_get hx hb hts hin hown hK hW.1 (x.toNat - 1) he hc f hf hlink (fun _ q => q) (by simp [hf]) hd (hk ls _ h H locs lsA hp (hA.stk (mm_cons hok (mm_tail hs))))
theorem mm_setR {N f : Nat} {V : Nat → Value} {w : Value} {V' : Nat → Value} (he : V' f = w) (hne : ∀ j, j ≠ f → V' j = V j) : ((List.range N).map V).set f w = (List.range N).map V' := by
  apply List.ext_getElem?
  intro i
  by_cases hi : i = f
  · subst hi
    by_cases hl : i < N
    · rw [List.getElem?_set_self (by simp [hl])]
      simp [hl, he]
    · rw [List.getElem?_eq_none (by simp; omega), List.getElem?_eq_none (by simp; omega)]
  · rw [List.getElem?_set_ne (Ne.symm hi)]
    by_cases hl : i < N
    · simp [hl, hne i hi]
    · rw [List.getElem?_eq_none (by simp; omega), List.getElem?_eq_none (by simp; omega)]
/-- what may be stored in a field of a type -/
def mmTy : FieldType → Nat
  | .long => 2
  | .object _ => 3
  | .array _ => 3
  | .int => 1
  | _ => 0
theorem mm_fit {ty : FieldType} {n x : Int} (h : mmOk n (mmTy ty, x)) (h0 : mmTy ty ≠ 0) : narrow ty (mmVal B b g (mmTy ty, x)) = mmVal B b g (mmTy ty, x) ∧ fits ty (mmVal B b g (mmTy ty, x)) = true := by
  cases ty with
  | int => exact ⟨rfl, rfl⟩
  | long => exact ⟨rfl, rfl⟩
  | object C => by_cases e : x = 0 <;> simp [mmVal, mmTy, e, narrow, fits]
  | array t => by_cases e : x = 0 <;> simp [mmVal, mmTy, e, narrow, fits]
  | _ => exact absurd rfl h0
theorem ks_put (hx : p.tables.exec = Jvm.exec) (hb : c.code = cc) {own C : String} {T : u_T} {ci N f index : Nat} {Ts : List Cond} {tys : List (ClassId × FieldType)} (hts : ∀ w ∈ Ts, w.before args s = true) (hin : ∀ w ∈ u_ws C T N, w ∈ Ts) (ty : Nat → FieldType) (hty : ∀ k, k < N → parseFieldDescriptor (T k).2.2.1 = some (ty k)) (hnm : ∀ a, a < N → ∀ b, b < N → a ≠ b → (T a).2.1 ≠ (T b).2.1) (hown : s.vm.findClass own = some m.cls) (hK : va_K D cl tys s)
    (hc : cl[ci]? = some (C, T, N)) (hci : ci < 99) (hsh : ∀ x, (sh x).1 = ci → (sh x).2 = N) (hs0 : (sh 0).1 = 99) (hf : f < N) (htg : tg ci f = mmTy (ty f)) (ht0 : tg ci f ≠ 0) (hlink : (Cond.fieldLink own index (T f).1 (T f).2.1 (T f).2.2.1).before args s = true) (hfin : (T f).2.2.2 = true → meth.name = "<init>" ∧ (T f).1 = own) (hd : decode cc pc = .ok (.putfield index, 3))
    (hk : mmKS sh tg B b g aC p l e R s m args below meth c H0 D cl nL n0 z0 Qm (pc + 3) k) : mmKS sh tg B b g aC p l e R s m args below meth c H0 D cl nL n0 z0 Qm pc (oPut sh tg (fun _ _ => none) wn ci f k) := by
  intro ls st h H locs lsA hp hA
  match st, hp, hA with
  | ⟨tw, w⟩ :: ⟨t, x⟩ :: r, hp, hA =>
    obtain ⟨ht, hp⟩ := mmG_iff.mp hp
    obtain ⟨hg1, hp⟩ := mmG_iff.mp hp
    simp only [Bool.and_eq_true] at hg1
    have h1 : (sh x).1 = ci := mm_beq hg1.1
    simp only [Bool.and_eq_true] at ht
    have e1 : t = 3 := mm_beq ht.2
    have e2 : tw = tg ci f := mm_beq ht.1
    subst e1; subst e2
    simp only [] at h1 hp
    have hs := hA.okS
    obtain ⟨g1, g2, g3⟩ := mm_pos (B := B) (b := b) (g := g) hs0 (mm_head (mm_tail hs)) h1 (by omega)
    have hW := hA.wh
    have he := mmWs_get sh tg B b g aC g1 g2
    rw [mmE_o h1 hci (hsh x h1)] at he
    have hwok : mmOk (h 0 0) (tg ci f, w) := mm_head hs
    obtain ⟨n1, n2⟩ := mm_fit (B := B) (b := b) (g := g) (ty := ty f) (by rw [← htg]; exact hwok) (by rw [← htg]; exact ht0)
    rw [← htg] at n1 n2
    rw [List.map_cons, List.map_cons, g3]
    have hap := va_apart (own := own) hts hin ty hty hnm hK hc
    obtain ⟨r2, h2, cell, q1, q2, q3, q4⟩ := hW.1 _ _ he
    have hr : r2 = (C, T, N) := Option.some.inj (h2.symm.trans hc)
    subst hr
    obtain ⟨hS, hfc, kC, hkC, hkind⟩ := hK.1 ci _ hc
    obtain ⟨cf, kf, fi, fd, hi, hsl⟩ := hS f hf
    have hlay := hts _ (hin _ (u_in_lay hf))
    unfold u_lay at hlay
    have hst := (u_facts hfc hkC (u_lays hts hin hf) hi).1
    have key : ∀ H' : Heap, H'[B + x.toNat]? = some (cell.setSlot fd.slot (mmVal B b g (tg ci f, w))) → H'.size = H.size → (∀ q, q ≠ B + x.toNat → H'[q]? = H[q]?) → W p l e R s m args below meth c H' (locs ++ [⟨B + x.toNat, fd.slot⟩]) ((h 0 0).toNat - n0) ((h 0 1).toNat - z0) Qm (F0 m (pc + 3) lsA (r.map (mmVal B b g))) := by
      intro H' f1 f2 f3
      have hat : va_at D cl (B + x.toNat, mmE sh tg B b g aC x (mmS h x f w x)) H' := by
        rw [mmE_o h1 hci (hsh x h1)]
        rw [hsl] at f1
        refine ⟨_, hc, ?_⟩
        have hl : f < ((List.range N).map (fun s : Nat => mmVal B b g (tg ci s, h x s))).length := by simp [hf]
        have hset : ((List.range N).map (fun s : Nat => mmVal B b g (tg ci s, h x s))).set f (mmVal B b g (tg ci f, w)) = (List.range N).map (fun s : Nat => mmVal B b g (tg ci s, mmS h x f w x s)) := by
          refine mm_setR ?_ (fun j hj => ?_)
          · rw [mmS_self]
          · rw [mmS_slot, if_neg (by omega)]
        rw [← hset]
        exact t_OB.to (V := updV (vp_V ((List.range N).map (fun s : Nat => mmVal B b g (tg ci s, h x s)))) f (mmVal B b g (tg ci f, w))) ⟨_, f1, q2, q3, t_set q4 hap hf _⟩ (fun j _ => vp_updV_set hl _ j)
      have e0 : mmS h x f w 0 0 = h 0 0 := mmS_cell (by omega)
      have e1 : mmS h x f w 0 1 = h 0 1 := mmS_cell (by omega)
      have := hk ls r _ H' _ lsA hp (hA.put (st' := r) (j := fd.slot) g1 g2 f2 f3 hat (by rw [mmTg_o h1 hci]; exact hwok) (mm_tail (mm_tail hs)))
      rw [e0, e1] at this
      exact this
    by_cases hfn : (T f).2.2.2 = true
    · rw [if_pos hfn] at hlay
      obtain ⟨hin2, hdecl⟩ := hfin hfn
      have hcf : m.cls = cf := by
        obtain ⟨_, _, c', _, _, _, -, -, hf', -, -, -, hown2, -⟩ := Cond.laysFinal_spec hlay
        have e1 : c' = cf := by have := hi.symm.trans hf'; simp at this; exact this.1.symm
        rw [hdecl] at hown2
        rw [← e1]; exact Option.some.inj (hown.symm.trans hown2)
      have h6 := u_fits hfc hkC hkind (Or.inr hlay) hi (hty f hf) n1 n2
      exact W.putFinK hx hb hown hlink hi hst hcf hin2 (by rw [q2]; exact h6) q1 q3 (by rw [hsl]; exact k2_hasslot (q4 f hf)) rfl rfl hd key
    · rw [if_neg hfn] at hlay
      have h6 := u_store hfc hkC hkind hlay hi (hty f hf) n1 n2
      exact W.putK hx hb (f := fd) ⟨hown, hlink, ⟨_, _, _, hi⟩, hst⟩ (by rw [q2]; exact h6) q1 q3 (by rw [hsl]; exact k2_hasslot (q4 f hf)) rfl rfl hd key
end MR3
