/-! ===== mm: new int[n][m] ===== -/
section MR10
variable {sh : Int → Nat × Nat} {tg : Nat → Nat → Nat} {B b g : Nat} {aC : Nat → ClassId} {p : Program} {l : Launch} {e : Env} {R : Room} {s : State} {m : MethodId} {args : Array Value} {below : List Frame} {meth : Method} {c : Code} {H0 : Heap} {D : va_G} {cl : List vw_C} {nL n0 z0 : Nat} {Qm : State → Prop}
variable {pc : Nat} {k : mmKont} {cc : ByteArray} {tys : List (ClassId × FieldType)}
theorem mmWs_all {h : mmH} {H : Heap} (hc : ∀ x : Int, 1 ≤ x → x < h 0 0 → va_at D cl (B + x.toNat, mmE sh tg B b g aC x (h x)) H) : va_P D cl (mmWs sh tg B b g aC h) H := by
  intro i q hq
  unfold mmWs at hq
  rw [List.getElem?_map] at hq
  by_cases hi : i < (h 0 0).toNat - 1
  · rw [List.getElem?_range hi] at hq
    cases hq
    have := hc ((i : Int) + 1) (by omega) (by omega)
    rw [show ((i : Int) + 1).toNat = i + 1 by omega] at this
    exact this
  · rw [List.getElem?_eq_none (by rw [List.length_range]; omega)] at hq
    cases hq
set_option maxHeartbeats 4000000 in
theorem ks_mna (hx : p.tables.exec = Jvm.exec) (hb : c.code = cc) {own : String} {index : Nat} {mc ms : Int} (hmc : mc = (R.cells : Int)) (hms : ms = (R.slots : Int)) (hown : s.vm.findClass own = some m.cls) (hK : va_K D cl tys s) (hty0 : tys[0]? = some (aC 0, mmKt 0)) (hty4 : tys[4]? = some (aC 4, mmKt 4)) (hclink : (Cond.classLink own index "[[I").before args s = true) (hover : (Cond.arrayOver (.array .int)).before args s = true) (harr : (Cond.arrayClass .int).before args s = true) (hd : decode cc pc = .ok (.multianewarray index 2, 4))
    (hk : mmKS sh tg B b g aC p l e R s m args below meth c H0 D cl nL n0 z0 Qm (pc + 4) k) : mmKS sh tg B b g aC p l e R s m args below meth c H0 D cl nL n0 z0 Qm pc (oNewM sh n0 z0 mc ms k) := by
  intro ls st h H locs lsA hp hA
  match st, hp, hA with
  | ⟨t1, y⟩ :: ⟨t2, x⟩ :: r, hp, hA =>
    obtain ⟨ht, ⟨h1, h2, h2'⟩, hrows, ⟨hy0, hy1⟩, ⟨h3, h4⟩, hp2⟩ := mmG_iff.mp hp
    simp only [Bool.and_eq_true] at ht
    have et1 : t1 = 1 := mm_beq ht.1
    have et2 : t2 = 1 := mm_beq ht.2
    subst et1; subst et2
    simp only [] at h2 h2' hrows hy0 hy1 h3 h4 hp2
    have hW := hA.wh
    have hW1 := hW.2.2.2.1
    have hW2 := hW.2.2.2.2.1
    have hcnt := hA.2.2.2.2.2
    have hx0 : 0 ≤ x := by omega
    obtain ⟨N, hN⟩ : ∃ N : Nat, x = (N : Int) := ⟨x.toNat, by omega⟩
    obtain ⟨M, hM⟩ : ∃ M : Nat, y = (M : Int) := ⟨y.toNat, by omega⟩
    subst hN; subst hM
    have hNM : ((N * M : Nat) : Int) = (N : Int) * (M : Int) := Int.natCast_mul N M
    rw [← hNM] at h4 hp2
    have e0 : mmS (mmS (mmRows h N) 0 0 (h 0 0 + (1 + (N : Int)))) 0 1 (h 0 1 + ((N : Int) + ((N * M : Nat) : Int))) 0 0 = h 0 0 + (1 + (N : Int)) := by rw [mmS_slot, if_neg (by omega), mmS_self]
    have e1 : mmS (mmS (mmRows h N) 0 0 (h 0 0 + (1 + (N : Int)))) 0 1 (h 0 1 + ((N : Int) + ((N * M : Nat) : Int))) 0 1 = h 0 1 + ((N : Int) + ((N * M : Nat) : Int)) := by rw [mmS_self]
    have eo : ∀ j : Int, 1 ≤ j → mmS (mmS (mmRows h N) 0 0 (h 0 0 + (1 + (N : Int)))) 0 1 (h 0 1 + ((N : Int) + ((N * M : Nat) : Int))) j = mmRows h N j := fun j hj => by
      funext i
      rw [mmS_cell (by omega), mmS_cell (by omega)]
    generalize mmS (mmS (mmRows h N) 0 0 (h 0 0 + (1 + (N : Int)))) 0 1 (h 0 1 + ((N : Int) + ((N * M : Nat) : Int))) = h' at hp2 e0 e1 eo
    have r1 : ∀ j : Int, 1 ≤ j → j < h 0 0 → h' j = h j := fun j j1 j2 => by
      rw [eo j j1]
      funext i
      unfold mmRows
      rw [if_neg (by omega), if_neg (by omega)]
    have r2 : ∀ i : Int, h' (h 0 0) i = if 0 ≤ i ∧ i < (N : Int) then h 0 0 + 1 + i else 0 := fun i => by
      rw [eo _ hW1]
      unfold mmRows
      rw [if_pos rfl]
    have r3 : ∀ j i : Int, h 0 0 < j → j ≤ h 0 0 + N → h' j i = 0 := fun j i j1 j2 => by
      rw [eo _ (by omega)]
      unfold mmRows
      rw [if_neg (by omega), if_pos ⟨j1, j2⟩]
    have cN : (Int32.ofInt (N : Int)).toNatClampNeg = N := by rw [mm_cl (by omega) (by omega)]; omega
    have cM : (Int32.ofInt (M : Int)).toNatClampNeg = M := by rw [mm_cl (by omega) (by omega)]; omega
    have ng : ∀ z : Nat, z < 65536 → ¬ Int32.ofInt (z : Int) < 0 := fun z hz q => by
      rw [Int32.lt_iff_toInt_lt, mm_t32 (by omega) (by omega)] at q
      have : (0 : Int32).toInt = 0 := rfl
      omega
    have es1 : "[" ++ (FieldType.array .int).toString = "[[I" := by decide +kernel
    have es2 : "[" ++ FieldType.int.toString = (FieldType.array .int).toString := by decide +kernel
    have hb2 : M * componentBytes .int ≤ 536870912 := by
      have : componentBytes FieldType.int = 4 := rfl
      rw [this]; omega
    intro T hT Xs
    obtain ⟨vm₁, cA, comp, -, fA, fC, -, -, X', step⟩ := Xs.multianewarray2F hx hown (ty := .int) (by rw [es1]; exact hclink) hover harr (g := F0 m pc lsA ((((1, (M : Int)) : mmV) :: (1, (N : Int)) :: r).map (mmVal B b g))) rfl (by rw [hb]; exact hd) rfl (ng N (by omega)) (ng M (by omega)) (by rw [cN]; omega) (by rw [cM]; exact hb2) (by rw [cM]; omega) rfl rfl (by rw [cN]; omega) (by rw [cN, cM]; omega)
    rw [cN, cM] at X' step
    have ecA : cA = aC 4 := Option.some.inj (fA.symm.trans (hK.2 4 _ hty4).2)
    have eco : comp = aC 0 := by
      have := (hK.2 0 _ hty0).2
      have this : s.vm.findClass ("[" ++ FieldType.int.toString) = some (aC 0) := this
      rw [es2] at this
      exact Option.some.inj (fC.symm.trans this)
    subst ecA; subst eco
    generalize hF : Jvm.Free.Multi.fill (T.setVm vm₁) (aC 4) (aC 0) N M (defaultValue .int) N = F at X' step
    have hTh : (T.setVm vm₁).heap = H := hT
    obtain ⟨f1, f2, -, -⟩ := Jvm.Free.Multi.fill_facts (T.setVm vm₁) (aC 4) (aC 0) N M (defaultValue .int) N
    rw [hF, hTh] at f1 f2
    have hold : ∀ q : Nat, q < H.size → F.heap[q]? = H[q]? := fun q hq => by
      have := Jvm.Free.Multi.fill_old (T.setVm vm₁) (aC 4) (aC 0) N M (defaultValue .int) (a := q) (by rw [hTh]; exact hq) N
      rw [hF, hTh] at this
      exact this
    have hin : ∀ j : Nat, j < N → F.heap[H.size + 1 + j]? = some (Jvm.Free.Multi.innerC (aC 0) M (defaultValue .int)) := fun j hj => by
      have := Jvm.Free.Multi.fill_inner (T.setVm vm₁) (aC 4) (aC 0) N M (defaultValue .int) N j hj
      rw [hF, hTh] at this
      exact this
    have w2 := hW.2.1
    have hWn : mmWH sh tg B b g aC D cl H0 h' F.heap locs := by
      obtain ⟨w1, -, w3, w4, w5, w6⟩ := hW
      refine ⟨mmWs_all (fun z z1 z2 => ?_), by rw [f1, w2, e0]; omega, ⟨Nat.le_trans w3.1 (by omega), fun q q1 q2 => (hold q (Nat.lt_of_lt_of_le q1 w3.1)).trans (w3.2.1 q q1 q2), w3.2.2⟩, by omega, by omega, fun a ha hlt => ?_⟩
      · rw [e0] at z2
        by_cases q : z < h 0 0
        · rw [r1 z z1 q]
          have hg := w1 _ _ (mmWs_get sh tg B b g aC z1 q)
          exact hg.kept (hold _ hg.lt)
        · by_cases q2 : z = h 0 0
          · subst q2
            rw [mmE_a (kd := 4) h1]
            show F.heap[B + (h 0 0).toNat]? = some (vp_cell _ _)
            rw [mmAr_cell (b := b) (g := g), ← w2, f2, mm_outer]
            have : (sh (h 0 0)).2 = N := by omega
            rw [this]
            congr 2
            funext j
            rw [r2]
            by_cases q3 : j < N
            · rw [if_pos q3, if_pos (by omega)]
              show Value.ref (H.size + 1 + j) = mmVal B b g (3, h 0 0 + 1 + (j : Int))
              have nz : ¬ h 0 0 + 1 + (j : Int) = 0 := by omega
              have e9 : B + (h 0 0 + 1 + (j : Int)).toNat = H.size + 1 + j := by omega
              simp only [mmVal, nz, if_false, e9]
            · rw [if_neg q3, if_neg (by omega)]
              rfl
          · obtain ⟨j, hj⟩ : ∃ j : Nat, z = h 0 0 + 1 + (j : Int) := ⟨(z - h 0 0 - 1).toNat, by omega⟩
            subst hj
            obtain ⟨s1, s2⟩ := hrows j (by omega)
            rw [mmE_a (kd := 0) s1]
            show F.heap[B + (h 0 0 + 1 + (j : Int)).toNat]? = some (vp_cell _ _)
            rw [mmAr_cell (b := b) (g := g), show B + (h 0 0 + 1 + (j : Int)).toNat = H.size + 1 + j by omega, hin j (by omega)]
            have : (sh (h 0 0 + 1 + (j : Int))).2 = M := by omega
            rw [this]
            have e5 : (fun i : Nat => mmVal B b g (mmEt 0, h' (h 0 0 + 1 + (j : Int)) i)) = fun _ => .int 0 := by
              funext i
              rw [r3 _ _ (by omega) (by omega)]
              rfl
            rw [e5, ← arrV_new]
            rfl
      · rw [e0] at hlt ⊢
        by_cases q : a < h 0 0
        · rw [r1 a ha q]
          obtain ⟨p1, p2⟩ := w6 a ha q
          exact ⟨p1, fun i hi => mmOk_mono (p2 i hi) (by omega)⟩
        · by_cases q2 : a = h 0 0
          · subst q2
            refine ⟨by omega, fun i hi => ?_⟩
            rw [mmTg_a (kd := 4) h1, r2, if_pos (by omega)]
            show 0 ≤ h 0 0 + 1 + (i : Int) ∧ h 0 0 + 1 + (i : Int) < h 0 0 + (1 + (N : Int))
            omega
          · obtain ⟨j, hj⟩ : ∃ j : Nat, a = h 0 0 + 1 + (j : Int) := ⟨(a - h 0 0 - 1).toNat, by omega⟩
            subst hj
            obtain ⟨s1, s2⟩ := hrows j (by omega)
            refine ⟨by omega, fun i hi => ?_⟩
            rw [mmTg_a (kd := 0) s1, r3 _ _ (by omega) (by omega)]
            exact ⟨by decide, by decide⟩
    have hA2 : mmIn sh tg B b g aC R H0 D cl nL n0 z0 ls ((3, h 0 0) :: r) h' F.heap locs lsA := by
      refine ⟨hA.1, hA.2.1, fun v hv => mmOk_mono (hA.2.2.1 v hv) (by omega), mm_cons ⟨by show 0 ≤ h 0 0; omega, by show h 0 0 < h' 0 0; omega⟩ (fun v hv => mmOk_mono (mm_tail (mm_tail hA.okS) v hv) (by omega)), hWn, by omega, by omega, by omega, by omega⟩
    have key := hk ls _ h' F.heap locs lsA hp2 hA2
    have en : (h' 0 0).toNat - n0 = (h 0 0).toNat - n0 + 1 + N := by omega
    have ezz : (h' 0 1).toNat - z0 = (h 0 1).toNat - z0 + N + N * M := by omega
    rw [en, ezz] at key
    obtain ⟨t2, a1, b1⟩ := key F rfl X'
    refine ⟨t2, step t2 ?_, b1⟩
    have ev : mmVal B b g (3, h 0 0) = .ref T.heap.size := by
      have : ¬ h 0 0 = 0 := by omega
      have hT2 : T.heap = H := hT
      simp only [mmVal, this, if_false, hT2, w2]
    rw [List.map_cons, ev] at a1
    exact a1
end MR10
