/-! ===== mm: what is made ===== -/
section MR7
variable {sh : Int → Nat × Nat} {tg : Nat → Nat → Nat} {B b g : Nat} {aC : Nat → ClassId} {p : Program} {l : Launch} {e : Env} {R : Room} {s : State} {m : MethodId} {args : Array Value} {below : List Frame} {meth : Method} {c : Code} {H0 : Heap} {D : va_G} {cl : List vw_C} {nL n0 z0 : Nat} {Qm : State → Prop}
variable {pc : Nat} {k : mmKont} {cc : ByteArray} {tys : List (ClassId × FieldType)}
theorem mmWs_push {h h' : mmH} (h1 : 1 ≤ h 0 0) (hn : h' 0 0 = h 0 0 + 1) (ho : ∀ j : Int, 1 ≤ j → j < h 0 0 → h' j = h j) : mmWs sh tg B b g aC h' = mmWs sh tg B b g aC h ++ [(B + (h 0 0).toNat, mmE sh tg B b g aC (h 0 0) (h' (h 0 0)))] := by
  unfold mmWs
  have e : (h' 0 0).toNat - 1 = ((h 0 0).toNat - 1) + 1 := by omega
  rw [e, List.range_succ, List.map_append, List.map_singleton]
  have e1 : (((h 0 0).toNat - 1 : Nat) : Int) + 1 = h 0 0 := by omega
  have e2 : (h 0 0).toNat - 1 + 1 = (h 0 0).toNat := by omega
  rw [e1, e2]
  congr 1
  apply List.map_congr_left
  intro q hq
  have hq2 := List.mem_range.mp hq
  rw [ho ((q : Int) + 1) (by omega) (by omega)]
/-- one more cell -/
theorem mmWH.push {h h' : mmH} {H H' : Heap} {locs : List Loc} (hW : mmWH sh tg B b g aC D cl H0 h H locs) (hn : h' 0 0 = h 0 0 + 1) (hz : 0 ≤ h' 0 1) (ho : ∀ j : Int, 1 ≤ j → j < h 0 0 → h' j = h j) (hb : ∀ i : Int, h' (h 0 0) i = 0) (hl : (sh (h 0 0)).2 < 2147483648)
    (z : H'.size = H.size + 1) (oq : ∀ q : Nat, q < H.size → H'[q]? = H[q]?) (hat : va_at D cl (B + (h 0 0).toNat, mmE sh tg B b g aC (h 0 0) (h' (h 0 0))) H') : mmWH sh tg B b g aC D cl H0 h' H' locs := by
  obtain ⟨w1, w2, w3, w4, w5, w6⟩ := hW
  refine ⟨?_, by rw [z, w2, hn]; omega, ⟨Nat.le_trans w3.1 (by omega), fun q q1 q2 => (oq q (Nat.lt_of_lt_of_le q1 w3.1)).trans (w3.2.1 q q1 q2), w3.2.2⟩, by omega, hz, fun a ha hlt => ?_⟩
  · rw [mmWs_push w4 hn ho]
    refine va_P.app (w1.kept fun i q hq => oq q.1 (w1 i q hq).lt) (fun i q hq => ?_)
    have hi : i < 1 := (List.getElem?_eq_some_iff.mp hq).1
    rw [show i = 0 by omega] at hq
    cases hq
    exact hat
  · rw [hn] at hlt ⊢
    by_cases e : a = h 0 0
    · subst e
      refine ⟨hl, fun i hi => ?_⟩
      rw [hb]
      unfold mmOk
      split <;> first | omega | trivial
    · rw [ho a ha (by omega)]
      obtain ⟨p1, p2⟩ := w6 a ha (by omega)
      exact ⟨p1, fun i hi => mmOk_mono (p2 i hi) (by omega)⟩
theorem mm_val0 {t : Nat} : mmVal B b g (t, 0) = (match t with | 1 => .int 0 | 2 => .long 0 | 3 => .null | 4 => .ref b | 5 => .ref g | _ => .null) := by
  match t with
  | 0 => rfl
  | 1 => rfl
  | 2 => rfl
  | 3 => rfl
  | 4 => rfl
  | 5 => rfl
  | n + 6 => rfl
theorem mm_dflt {ty : FieldType} (h0 : mmTy ty ≠ 0) : defaultValue ty = mmVal B b g (mmTy ty, 0) := by
  cases ty with
  | int => rfl
  | long => rfl
  | object C => rfl
  | array t => rfl
  | _ => exact absurd rfl h0
theorem mmIn.push {ls st : List mmV} {h h' : mmH} {H H' : Heap} {locs : List Loc} {lsA : Array Slot} (hA : mmIn sh tg B b g aC R H0 D cl nL n0 z0 ls st h H locs lsA) {r : List mmV} (hr : ∀ v ∈ r, mmOk (h 0 0) v) (hn : h' 0 0 = h 0 0 + 1) (hz : h 0 1 ≤ h' 0 1) (hcap : (h' 0 0).toNat - n0 ≤ R.cells ∧ (h' 0 1).toNat - z0 ≤ R.slots) (hW : mmWH sh tg B b g aC D cl H0 h' H' locs) : mmIn sh tg B b g aC R H0 D cl nL n0 z0 ls ((3, h 0 0) :: r) h' H' locs lsA := by
  have h1 := hA.wh.2.2.2.1
  have hcnt := hA.2.2.2.2.2
  refine ⟨hA.1, hA.2.1, fun v hv => mmOk_mono (hA.2.2.1 v hv) (by omega), mm_cons ⟨by show 0 ≤ h 0 0; omega, by show h 0 0 < h' 0 0; omega⟩ (fun v hv => mmOk_mono (hr v hv) (by omega)), hW, by omega, by omega, hcap.1, hcap.2⟩
theorem ks_new (hx : p.tables.exec = Jvm.exec) (hb : c.code = cc) {own C : String} {T : u_T} {ci N index : Nat} {Ts : List Cond} {mc ms : Int} (hmc : mc = (R.cells : Int)) (hms : ms = (R.slots : Int)) (hts : ∀ w ∈ Ts, w.before args s = true) (hin : ∀ w ∈ u_ws C T N, w ∈ Ts) (ty : Nat → FieldType) (hty : ∀ k, k < N → parseFieldDescriptor (T k).2.2.1 = some (ty k)) (hown : s.vm.findClass own = some m.cls) (hK : va_K D cl tys s)
    (hc : cl[ci]? = some (C, T, N)) (hci : ci < 99) (hsh : ∀ x, (sh x).1 = ci → (sh x).2 = N) (htg : ∀ f, f < N → tg ci f = mmTy (ty f) ∧ tg ci f ≠ 0) (hcl : (Cond.classLink own index C).before args s = true) (hinst : (Cond.instantiable C N).before args s = true) (hini : (Cond.initialized C).before args s = true) (hd : decode cc pc = .ok (.new index, 3))
    (hk : mmKS sh tg B b g aC p l e R s m args below meth c H0 D cl nL n0 z0 Qm (pc + 3) k) : mmKS sh tg B b g aC p l e R s m args below meth c H0 D cl nL n0 z0 Qm pc (oNew sh n0 z0 mc ms ci k) := by
  intro ls st h H locs lsA hp hA
  obtain ⟨⟨h1, h2⟩, ⟨h3, h4⟩, hp⟩ := hp
  have hW := hA.wh
  have hW1 := hW.2.2.2.1
  have hW2 := hW.2.2.2.2.1
  have hcnt := hA.2.2.2.2.2
  have hN := hsh _ h1
  rw [hN] at h4
  have e0 : mmS (mmS (mmZ h) 0 0 (h 0 0 + 1)) 0 1 (h 0 1 + ((sh (h 0 0)).2 : Int)) 0 0 = h 0 0 + 1 := by rw [mmS_slot, if_neg (by omega), mmS_self]
  have e1 : mmS (mmS (mmZ h) 0 0 (h 0 0 + 1)) 0 1 (h 0 1 + ((sh (h 0 0)).2 : Int)) 0 1 = h 0 1 + (N : Int) := by rw [mmS_self, hN]
  have eo : ∀ j : Int, 1 ≤ j → mmS (mmS (mmZ h) 0 0 (h 0 0 + 1)) 0 1 (h 0 1 + ((sh (h 0 0)).2 : Int)) j = mmZ h j := fun j hj => by
    funext i
    rw [mmS_cell (by omega), mmS_cell (by omega)]
  have ez : ∀ i : Int, mmZ h (h 0 0) i = 0 := fun i => by simp [mmZ]
  generalize hh' : mmS (mmS (mmZ h) 0 0 (h 0 0 + 1)) 0 1 (h 0 1 + ((sh (h 0 0)).2 : Int)) = h' at hp e0 e1 eo
  have hKn := hK.1 ci _ hc
  refine W.newcK hx hb hown hcl hinst hini rfl hd (by omega) (by omega) hKn.2.1 hW.2.1 fun H' kC hkC f1 f2 f3 => ?_
  have hat : va_at D cl (B + (h 0 0).toNat, mmE sh tg B b g aC (h 0 0) (h' (h 0 0))) H' := by
    rw [mmE_o h1 hci hN]
    refine ⟨_, hc, (u_born ty hts hin hKn hkC f1 hty).to fun j hj => ?_⟩
    show _ = vp_V _ _
    unfold vp_V
    rw [List.getD_eq_getElem?_getD, List.getElem?_map, List.getElem?_range hj]
    obtain ⟨t1, t2⟩ := htg j hj
    rw [mm_dflt (B := B) (b := b) (g := g) (by rw [← t1]; exact t2), eo _ hW1]
    simp [ez, t1]
  have hWn := hW.push (h' := h') (H' := H') e0 (by omega) (fun j j1 j2 => by rw [eo j j1]; funext i; simp [mmZ]; omega) (fun i => by rw [eo _ hW1, ez]) (by omega) (by rw [f2, hW.2.1]) (fun q hq => f3 q (by rw [← hW.2.1]; exact hq)) hat
  have := hk ls _ h' H' locs lsA hp (hA.push (r := st) hA.okS e0 (by omega) (by omega) hWn)
  have en : (h' 0 0).toNat - n0 = (h 0 0).toNat - n0 + 1 := by omega
  have ezz : (h' 0 1).toNat - z0 = (h 0 1).toNat - z0 + N := by omega
  rw [en, ezz] at this
  have ev : mmVal B b g (3, h 0 0) = .ref (B + (h 0 0).toNat) := by
    have : ¬ h 0 0 = 0 := by omega
    simp only [mmVal, this, if_false]
  rw [List.map_cons, ev] at this
  exact this
theorem mm_cb {kd : Nat} (h : kd < 4) : componentBytes (mmKt kd) ≤ 8 := by
  match kd, h with
  | 0, _ => decide
  | 1, _ => decide
  | 2, _ => decide
  | 3, _ => decide
theorem mm_nm {kd : Nat} {cA : ClassId} (h : kd < 4) (hr : va_RA s cA (mmKt kd)) : s.vm.findClass ("[" ++ (mmKt kd).toString) = some cA := by
  match kd, h, hr with
  | 0, _, hr => exact hr
  | 1, _, hr => exact hr
  | 2, _, hr => exact hr
  | 3, _, hr => exact hr
theorem mm_d0 {kd : Nat} (h : kd < 4) : defaultValue (mmKt kd) = mmVal B b g (mmEt kd, 0) := by
  match kd, h with
  | 0, _ => rfl
  | 1, _ => rfl
  | 2, _ => rfl
  | 3, _ => rfl
theorem ks_newA (hx : p.tables.exec = Jvm.exec) (hb : c.code = cc) {kd : Nat} {at_ : ArrayType} {mc ms : Int} (hmc : mc = (R.cells : Int)) (hms : ms = (R.slots : Int)) (hK : va_K D cl tys s) (hty : tys[kd]? = some (aC kd, mmKt kd)) (hk4 : kd < 4) (hat_ : newarray.typeOf at_ = mmKt kd) (harr : (Cond.arrayClass (newarray.typeOf at_)).before args s = true) (hd : decode cc pc = .ok (.newarray at_, 2))
    (hk : mmKS sh tg B b g aC p l e R s m args below meth c H0 D cl nL n0 z0 Qm (pc + 2) k) : mmKS sh tg B b g aC p l e R s m args below meth c H0 D cl nL n0 z0 Qm pc (oNewA sh n0 z0 mc ms kd k) := by
  intro ls st h H locs lsA hp hA
  match st, hp, hA with
  | ⟨t, x⟩ :: r, hp, hA =>
    obtain ⟨ht, ⟨h1, h2, h2'⟩, ⟨h3, h4⟩, hp2⟩ := mmG_iff.mp hp
    have et : t = 1 := mm_beq ht
    subst et
    simp only [] at h2 h2' h3 h4 hp2
    have hW := hA.wh
    have hW1 := hW.2.2.2.1
    have hW2 := hW.2.2.2.2.1
    have hcnt := hA.2.2.2.2.2
    have e0 : mmS (mmS (mmZ h) 0 0 (h 0 0 + 1)) 0 1 (h 0 1 + x) 0 0 = h 0 0 + 1 := by rw [mmS_slot, if_neg (by omega), mmS_self]
    have e1 : mmS (mmS (mmZ h) 0 0 (h 0 0 + 1)) 0 1 (h 0 1 + x) 0 1 = h 0 1 + x := by rw [mmS_self]
    have eo : ∀ j : Int, 1 ≤ j → mmS (mmS (mmZ h) 0 0 (h 0 0 + 1)) 0 1 (h 0 1 + x) j = mmZ h j := fun j hj => by
      funext i
      rw [mmS_cell (by omega), mmS_cell (by omega)]
    have ez : ∀ i : Int, mmZ h (h 0 0) i = 0 := fun i => by simp [mmZ]
    generalize hh' : mmS (mmS (mmZ h) 0 0 (h 0 0 + 1)) 0 1 (h 0 1 + x) = h' at hp2 e0 e1 eo
    have hx0 : 0 ≤ x := by omega
    have hcl : (Int32.ofInt x).toNatClampNeg = x.toNat := mm_cl hx0 (by omega)
    have hng : ¬ Int32.ofInt x < 0 := fun q => by
      rw [Int32.lt_iff_toInt_lt, mm_t32 (by omega) (by omega)] at q
      have : (0 : Int32).toInt = 0 := rfl
      omega
    have hcb : componentBytes (newarray.typeOf at_) ≤ 8 := by rw [hat_]; exact mm_cb hk4
    have hbytes : x.toNat * componentBytes (newarray.typeOf at_) ≤ 536870912 := Nat.le_trans (Nat.mul_le_mul (show x.toNat ≤ 65536 by omega) hcb) (by omega)
    rw [List.map_cons]
    refine va_newaK hx hb harr rfl hd rfl hng hcl hbytes (by omega) (by omega) hW.2.1 fun H' cA f1 f2 f3 f4 f5 => ?_
    have hnm := (hK.2 kd _ hty).2
    have hcA : cA = aC kd := by
      rw [hat_] at f5
      exact Option.some.inj (f5.symm.trans (mm_nm hk4 hnm))
    have hat : va_at D cl (B + (h 0 0).toNat, mmE sh tg B b g aC (h 0 0) (h' (h 0 0))) H' := by
      rw [mmE_a h1]
      show H'[B + (h 0 0).toNat]? = some (vp_cell _ _)
      rw [mmAr_cell (b := b) (g := g), f1, hcA, hat_]
      have : (sh (h 0 0)).2 = x.toNat := by omega
      rw [this]
      congr 2
      funext j
      rw [eo _ hW1, ez]
      exact mm_d0 hk4
    have hWn := hW.push (h' := h') (H' := H') e0 (by omega) (fun j j1 j2 => by rw [eo j j1]; funext i; simp [mmZ]; omega) (fun i => by rw [eo _ hW1, ez]) (by omega) (by rw [f2, hW.2.1]) (fun q hq => f3 q (by rw [← hW.2.1]; exact hq)) hat
    have := hk ls _ h' H' locs lsA hp2 (hA.push (r := r) (mm_tail hA.okS) e0 (by omega) (by omega) hWn)
    have en : (h' 0 0).toNat - n0 = (h 0 0).toNat - n0 + 1 := by omega
    have ezz : (h' 0 1).toNat - z0 = (h 0 1).toNat - z0 + x.toNat := by omega
    rw [en, ezz] at this
    have ev : mmVal B b g (3, h 0 0) = .ref (B + (h 0 0).toNat) := by
      have : ¬ h 0 0 = 0 := by omega
      simp only [mmVal, this, if_false]
    rw [List.map_cons, ev] at this
    exact this
theorem ks_newQ (hx : p.tables.exec = Jvm.exec) (hb : c.code = cc) {own : String} {index : Nat} {mc ms : Int} (hmc : mc = (R.cells : Int)) (hms : ms = (R.slots : Int)) (hown : s.vm.findClass own = some m.cls) (hK : va_K D cl tys s) (hty : tys[5]? = some (aC 5, mmKt 5)) (hclink : (Cond.classLink own index "TileHeel$Roofs").before args s = true) (hover : (Cond.arrayOver (.object "TileHeel$Roofs")).before args s = true) (hd : decode cc pc = .ok (.anewarray index, 3))
    (hk : mmKS sh tg B b g aC p l e R s m args below meth c H0 D cl nL n0 z0 Qm (pc + 3) k) : mmKS sh tg B b g aC p l e R s m args below meth c H0 D cl nL n0 z0 Qm pc (oNewA sh n0 z0 mc ms 5 k) := by
  intro ls st h H locs lsA hp hA
  match st, hp, hA with
  | ⟨t, x⟩ :: r, hp, hA =>
    obtain ⟨ht, ⟨h1, h2, h2'⟩, ⟨h3, h4⟩, hp2⟩ := mmG_iff.mp hp
    have et : t = 1 := mm_beq ht
    subst et
    simp only [] at h2 h2' h3 h4 hp2
    have hW := hA.wh
    have hW1 := hW.2.2.2.1
    have hW2 := hW.2.2.2.2.1
    have hcnt := hA.2.2.2.2.2
    have e0 : mmS (mmS (mmZ h) 0 0 (h 0 0 + 1)) 0 1 (h 0 1 + x) 0 0 = h 0 0 + 1 := by rw [mmS_slot, if_neg (by omega), mmS_self]
    have e1 : mmS (mmS (mmZ h) 0 0 (h 0 0 + 1)) 0 1 (h 0 1 + x) 0 1 = h 0 1 + x := by rw [mmS_self]
    have eo : ∀ j : Int, 1 ≤ j → mmS (mmS (mmZ h) 0 0 (h 0 0 + 1)) 0 1 (h 0 1 + x) j = mmZ h j := fun j hj => by
      funext i
      rw [mmS_cell (by omega), mmS_cell (by omega)]
    have ez : ∀ i : Int, mmZ h (h 0 0) i = 0 := fun i => by simp [mmZ]
    generalize hh' : mmS (mmS (mmZ h) 0 0 (h 0 0 + 1)) 0 1 (h 0 1 + x) = h' at hp2 e0 e1 eo
    have hx0 : 0 ≤ x := by omega
    have hcl : (Int32.ofInt x).toNatClampNeg = x.toNat := mm_cl hx0 (by omega)
    have hng : ¬ Int32.ofInt x < 0 := fun q => by
      rw [Int32.lt_iff_toInt_lt, mm_t32 (by omega) (by omega)] at q
      have : (0 : Int32).toInt = 0 := rfl
      omega
    rw [List.map_cons]
    refine W.anew hx hb hown hclink hover rfl hd rfl hng (by rw [hcl]; omega) (by omega) (by rw [hcl]; omega) fun cA kA comp f1 f2 f3 f4 => ?_
    rw [hcl]
    have hcA : cA = aC 5 := by
      obtain ⟨_, _, _, _, _, q⟩ := (hK.2 5 _ hty).2
      exact Option.some.inj (f1.symm.trans q)
    have hat : va_at D cl (B + (h 0 0).toNat, mmE sh tg B b g aC (h 0 0) (h' (h 0 0))) (H.push { cls := cA, slots := Array.replicate x.toNat .null, vm := .none }) := by
      rw [mmE_a h1]
      show (H.push _)[B + (h 0 0).toNat]? = some (vp_cell _ _)
      rw [mmAr_cell (b := b) (g := g), hcA, ← hW.2.1, Array.getElem?_push_size]
      have : (sh (h 0 0)).2 = x.toNat := by omega
      rw [this]
      have e5 : (fun j : Nat => mmVal B b g (mmEt 5, h' (h 0 0) j)) = fun _ => .null := by
        funext j
        rw [eo _ hW1, ez]
        rfl
      rw [e5, ← arrV_new]
    have hWn := hW.push (h' := h') (H' := H.push { cls := cA, slots := Array.replicate x.toNat .null, vm := .none }) e0 (by omega) (fun j j1 j2 => by rw [eo j j1]; funext i; simp [mmZ]; omega) (fun i => by rw [eo _ hW1, ez]) (by omega) (by simp) (fun q hq => by rw [Array.getElem?_push, if_neg (Nat.ne_of_lt hq)]) hat
    have := hk ls _ h' _ locs lsA hp2 (hA.push (r := r) (mm_tail hA.okS) e0 (by omega) (by omega) hWn)
    have en : (h' 0 0).toNat - n0 = (h 0 0).toNat - n0 + 1 := by omega
    have ezz : (h' 0 1).toNat - z0 = (h 0 1).toNat - z0 + x.toNat := by omega
    rw [en, ezz] at this
    have ev : mmVal B b g (3, h 0 0) = .ref H.size := by
      have : ¬ h 0 0 = 0 := by omega
      simp only [mmVal, this, if_false, hW.2.1]
    rw [List.map_cons, ev] at this
    exact this
end MR7
