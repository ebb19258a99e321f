/-! ===== mm: System.arraycopy ===== -/
section MR8
variable {sh : Int → Nat × Nat} {tg : Nat → Nat → Nat} {B b g : Nat} {aC : Nat → ClassId} {p : Program} {l : Launch} {e : Env} {R : Room} {s : State} {m : MethodId} {args : Array Value} {below : List Frame} {meth : Method} {c : Code} {H0 : Heap} {D : va_G} {cl : List vw_C} {nL n0 z0 : Nat} {Qm : State → Prop}
variable {pc : Nat} {k : mmKont} {cc : ByteArray} {tys : List (ClassId × FieldType)} {wn : Int → Bool}
theorem mm_z32 {z : Int} (h1 : 0 ≤ z) (h2 : z < 2147483648) : ¬ Int32.ofInt z < 0 ∧ (Int32.ofInt z).toInt = z ∧ (Int32.ofInt z).toNatClampNeg = z.toNat := by
  have e := mm_t32 (x := z) (by omega) h2
  refine ⟨fun q => ?_, e, mm_cl h1 h2⟩
  rw [Int32.lt_iff_toInt_lt, e] at q
  have : (0 : Int32).toInt = 0 := rfl
  omega
theorem ks_cpy (hx : p.tables.exec = Jvm.exec) (hb : c.code = cc) (hml : c.maxLocals = nL) {own : String} {index : Nat} (hown : s.vm.findClass own = some m.cls) (hlink : (Cond.methodLink own index arraycopyName).before args s = true) (hnat : (Cond.native arraycopyName).before args s = true) (hstat : (Cond.static arraycopyName).before args s = true) (hini : (Cond.initialized "java/lang/System").before args s = true)
    (hK : va_K D cl tys s) (hs0 : (sh 0).1 = 99) (hty : tys[0]? = some (aC 0, .int)) (hR : 1 ≤ R.frames ∧ 8 + (nativeFrameWords "java/lang/System" "arraycopy" 5 + 11) ≤ R.locals) (hd : decode cc pc = .ok (.invokestatic index, 3))
    (hk : mmKS sh tg B b g aC p l e R s m args below meth c H0 D cl nL n0 z0 Qm (pc + 3) k) : mmKS sh tg B b g aC p l e R s m args below meth c H0 D cl nL n0 z0 Qm pc (oCpy sh wn k) := by
  intro ls st h H locs lsA hp hA
  match st, hp, hA with
  | ⟨t1, n⟩ :: ⟨t2, dp⟩ :: ⟨t3, x⟩ :: ⟨t4, sp⟩ :: ⟨t5, y⟩ :: r, hp, hA =>
    obtain ⟨ht, hp⟩ := mmG_iff.mp hp
    obtain ⟨h12, hp⟩ := mmG_iff.mp hp
    obtain ⟨⟨⟨h3, h4, h5⟩, ⟨h6, h7⟩⟩, hp2⟩ := mmD_iff.mp hp
    simp only [Bool.and_eq_true] at h12
    have h1 : (sh y).1 = 100 := mm_beq h12.1
    have h2 : (sh x).1 = 100 := mm_beq h12.2.1
    simp only [Bool.and_eq_true] at ht
    have e1 : t1 = 1 := mm_beq ht.1
    have e2 : t2 = 1 := mm_beq ht.2.1
    have e3 : t3 = 3 := mm_beq ht.2.2.1
    have e4 : t4 = 1 := mm_beq ht.2.2.2.1
    have e5 : t5 = 3 := mm_beq ht.2.2.2.2.1
    have hcat := mm_ble ht.2.2.2.2.2
    subst e1; subst e2; subst e3; subst e4; subst e5
    simp only [] at h1 h2 h3 h4 h5 h6 h7
    have hs := hA.okS
    have hoky := mm_head (mm_tail (mm_tail (mm_tail (mm_tail hs))))
    have hokx := mm_head (mm_tail (mm_tail hs))
    obtain ⟨g1, g2, g3⟩ := mm_pos (B := B) (b := b) (g := g) hs0 hoky h1 (by omega)
    obtain ⟨f1, f2, f3⟩ := mm_pos (B := B) (b := b) (g := g) hs0 hokx h2 (by omega)
    have hW := hA.wh
    obtain ⟨leny, conty⟩ := hW.2.2.2.2.2 y g1 g2
    obtain ⟨lenx, contx⟩ := hW.2.2.2.2.2 x f1 f2
    have hc0 := mm_arr (kd := 0) hW g1 g2 (by omega)
    have hc1 := mm_arr (kd := 0) hW f1 f2 (by omega)
    obtain ⟨-, k0, hk0, cm0, hkk0⟩ := (hK.2 0 _ hty).1 (sh y).2 (fun j : Nat => mmVal B b g (mmEt 0, h y j))
    obtain ⟨-, k1, hk1, cm1, hkk1⟩ := (hK.2 0 _ hty).1 (sh x).2 (fun j : Nat => mmVal B b g (mmEt 0, h x j))
    obtain ⟨a1, a2, a3⟩ := mm_z32 h3 (by omega)
    obtain ⟨b1, b2, b3⟩ := mm_z32 h4 (by omega)
    obtain ⟨d1, d2, d3⟩ := mm_z32 h5 (by omega)
    rw [List.map_cons, List.map_cons, List.map_cons, List.map_cons, List.map_cons, g3, f3]
    intro T hT X
    obtain ⟨vm', X', step⟩ := X.arraycopy hx hown hlink hnat hstat hini (src := B + y.toNat) (dst := B + x.toNat) (srcPos := Int32.ofInt sp) (destPos := Int32.ofInt dp) (n := Int32.ofInt n) (by rw [hT]; exact hc0) (by rw [hT]; exact hc1)
      (fun _ h => by cases h) (fun _ h => by cases h) (fun h => by cases h) (fun h => by cases h) hk0 hk1 hkk0 hkk1 (by rfl) a1 b1 d1
      (by rw [a2, d2, arrV_size]; omega) (by rw [b2, d2, arrV_size]; omega)
      (fun vm₁ _ i hi => by
        have e : (arrV (aC 0) (sh y).2 (fun j : Nat => mmVal B b g (mmEt 0, h y j))).slots.getD ((Int32.ofInt sp).toNatClampNeg + i) .null = .int (Int32.ofInt (h y (((Int32.ofInt sp).toNatClampNeg + i : Nat)))) := by
          rw [d3] at hi
          rw [Array.getD_eq_getD_getElem?, arrV_read _ _ (by rw [a3]; omega)]
          rfl
        exact ⟨by rw [e]; rfl, by rw [e]; exact trivial⟩)
      (g := F0 m pc lsA (mmVal B b g (1, n) :: mmVal B b g (1, dp) :: .ref (B + x.toNat) :: mmVal B b g (1, sp) :: .ref (B + y.toNat) :: r.map (mmVal B b g))) rfl (by rw [hml]; exact hA.1.1) (rest := r.map (mmVal B b g)) rfl (by rw [hb]; exact hd) hR.1 (by show 2 * 0 + _ + _ ≤ _; rw [mm_cat]; omega)
    have ec : copied (arrV (aC 0) (sh y).2 (fun j : Nat => mmVal B b g (mmEt 0, h y j))) (arrV (aC 0) (sh x).2 (fun j : Nat => mmVal B b g (mmEt 0, h x j))) (Int32.ofInt sp) (Int32.ofInt dp) (Int32.ofInt n) = arrV (aC 0) (sh x).2 (fun j : Nat => mmVal B b g (mmEt 0, va_cpy (fun j : Nat => h y j) (fun j : Nat => h x j) sp.toNat dp.toNat n.toNat j)) := by
      show (arrV _ _ _).storeRun (Int32.ofInt dp).toNatClampNeg ((arrV _ _ _).stretch (Int32.ofInt sp).toNatClampNeg (Int32.ofInt n).toNatClampNeg) = _
      rw [a3, b3, d3]
      exact va_copied (fun z => mmVal B b g (mmEt 0, z)) (aC 0) (aC 0) (fun j : Nat => h y j) (fun j : Nat => h x j) (by omega)
    rw [ec] at X' step
    have e0 : mmCpy h y sp x dp n 0 0 = h 0 0 := by unfold mmCpy; rw [if_neg (by omega)]
    have e1 : mmCpy h y sp x dp n 0 1 = h 0 1 := by unfold mmCpy; rw [if_neg (by omega)]
    have hfun : (fun j : Nat => mmVal B b g (mmEt 0, va_cpy (fun j : Nat => h y j) (fun j : Nat => h x j) sp.toNat dp.toNat n.toNat j)) = fun j : Nat => mmVal B b g (mmEt 0, mmCpy h y sp x dp n x j) := by
      funext j
      congr 2
      unfold va_cpy mmCpy
      rw [if_pos rfl]
      by_cases q : dp.toNat ≤ j ∧ j < dp.toNat + n.toNat
      · rw [if_pos q, if_pos (by omega)]
        have e : ((sp.toNat + (j - dp.toNat) : Nat) : Int) = sp + ((j : Int) - dp) := by omega
        show h y ((sp.toNat + (j - dp.toNat) : Nat) : Int) = _
        rw [e]
      · rw [if_neg q, if_neg (by omega)]
    rw [hfun] at X' step
    have hl : B + x.toNat < H.size := (Array.getElem?_eq_some_iff.mp hc1).1
    have hheap : ((T.setVm vm').setCell (B + x.toNat) (arrV (aC 0) (sh x).2 (fun j : Nat => mmVal B b g (mmEt 0, mmCpy h y sp x dp n x j)))).heap = H.setIfInBounds (B + x.toNat) (arrV (aC 0) (sh x).2 (fun j : Nat => mmVal B b g (mmEt 0, mmCpy h y sp x dp n x j))) := by rw [← hT]; rfl
    have oq : ∀ q : Nat, q ≠ B + x.toNat → (H.setIfInBounds (B + x.toNat) (arrV (aC 0) (sh x).2 (fun j : Nat => mmVal B b g (mmEt 0, mmCpy h y sp x dp n x j))))[q]? = H[q]? := fun q hq => by simp [Array.getElem?_setIfInBounds, Ne.symm hq]
    have hat : va_at D cl (B + x.toNat, mmE sh tg B b g aC x (mmCpy h y sp x dp n x)) (H.setIfInBounds (B + x.toNat) (arrV (aC 0) (sh x).2 (fun j : Nat => mmVal B b g (mmEt 0, mmCpy h y sp x dp n x j)))) := by
      rw [mmE_a (kd := 0) h2]
      show (H.setIfInBounds _ _)[B + x.toNat]? = some (vp_cell _ _)
      rw [mmAr_cell (b := b) (g := g)]
      simp [Array.getElem?_setIfInBounds, hl]
    have hWn : ∀ L2 : List Loc, (∀ q ∈ L2, q.base = B + x.toNat) → mmWH sh tg B b g aC D cl H0 (mmCpy h y sp x dp n) (H.setIfInBounds (B + x.toNat) (arrV (aC 0) (sh x).2 (fun j : Nat => mmVal B b g (mmEt 0, mmCpy h y sp x dp n x j)))) (locs ++ L2) := by
      intro L2 hL2
      obtain ⟨w1, w2, w3, w4, w5, w6⟩ := hW
      refine ⟨?_, by rw [e0]; simp [w2], ⟨by simp; exact w3.1, fun q q1 q2 => ?_, fun q hq => ?_⟩, by rw [e0]; exact w4, by rw [e1]; exact w5, fun a ha hlt => ?_⟩
      · rw [← mmWs_set sh tg B b g aC (h := h) (h' := mmCpy h y sp x dp n) f1 f2 e0 (fun j _ hj => by funext i; unfold mmCpy; rw [if_neg hj]) rfl]
        exact w1.set (mmWs_D sh tg B b g aC h) (mmWs_get sh tg B b g aC f1 f2) hat oq
      · rw [oq q (fun e => q2 (by rw [e]; show B + 1 ≤ B + x.toNat; omega))]
        exact w3.2.1 q q1 q2
      · rcases List.mem_append.mp hq with q1 | q1
        · exact w3.2.2 q q1
        · rw [hL2 q q1]
          show B + 1 ≤ B + x.toNat
          omega
      · rw [e0] at hlt ⊢
        obtain ⟨p1, p2⟩ := w6 a ha hlt
        refine ⟨p1, fun i hi => ?_⟩
        unfold mmCpy
        by_cases ea : a = x
        · rw [if_pos ea]
          subst ea
          by_cases q : dp ≤ (i : Int) ∧ (i : Int) < dp + n
          · rw [if_pos q]
            have := conty (sp + ((i : Int) - dp)).toNat (by omega)
            rw [mmTg_a (kd := 0) (by omega)] at this
            rw [mmTg_a (kd := 0) (by omega)]
            have e : (((sp + ((i : Int) - dp)).toNat : Nat) : Int) = sp + ((i : Int) - dp) := by omega
            rw [e] at this
            exact this
          · rw [if_neg q]
            exact p2 i hi
        · rw [if_neg ea]
          exact p2 i hi
    have hcnt := hA.2.2.2.2.2
    have hA2 : ∀ L2 : List Loc, (∀ q ∈ L2, q.base = B + x.toNat) → mmIn sh tg B b g aC R H0 D cl nL n0 z0 ls r (mmCpy h y sp x dp n) (H.setIfInBounds (B + x.toNat) (arrV (aC 0) (sh x).2 (fun j : Nat => mmVal B b g (mmEt 0, mmCpy h y sp x dp n x j)))) (locs ++ L2) lsA :=
      fun L2 hL2 => ⟨hA.1, hA.2.1, by rw [e0]; exact hA.2.2.1, by rw [e0]; exact mm_tail (mm_tail (mm_tail (mm_tail (mm_tail hs)))), hWn L2 hL2, by rw [e0]; exact hcnt.1, by rw [e1]; exact hcnt.2.1, by rw [e0]; exact hcnt.2.2.1, by rw [e1]; exact hcnt.2.2.2⟩
    have key := fun L2 hL2 => hk ls r _ _ (locs ++ L2) lsA hp2 (hA2 L2 hL2)
    rw [e0, e1] at key
    obtain ⟨t, q1, q2⟩ := key _ (fun q hq => by
      obtain ⟨z, -, hz⟩ := List.mem_map.mp hq
      rw [← hz]) _ hheap X'
    exact ⟨t, step t q1, q2⟩
end MR8
