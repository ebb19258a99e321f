/-! ===== mm: a return ===== -/
def mmGrow (mc ms : Nat) (h0 h : mmH) : Prop := (mc = 0 ∧ ms = 0) ∨ (h 0 0 = h0 0 0 + mc ∧ h 0 1 = h0 0 1 + ms)
section MR6
variable {sh : Int → Nat × Nat} {tg : Nat → Nat → Nat} {B b g : Nat} {aC : Nat → ClassId} {p : Program} {l : Launch} {e : Env} {R : Room} {s : State} {m : MethodId} {args : Array Value} {below : List Frame} {meth : Method} {c : Code} {H0 : Heap} {D : va_G} {cl : List vw_C} {nL n0 z0 : Nat} {Qm : State → Prop}
variable {pc : Nat} {cc : ByteArray} {tys : List (ClassId × FieldType)}
theorem ks_ret {Q : Int → mmH → Prop} {rt mcN msN : Nat} {h0 : mmH} {ret : Option FieldType} (hx : p.tables.exec = Jvm.exec) (hb : c.code = cc) (hlocks : meth.locks = false) (hH0 : H0 = s.heap) (hn0 : n0 = (h0 0 0).toNat) (hz0 : z0 = (h0 0 1).toNat) (hp0 : 0 ≤ h0 0 0 ∧ 0 ≤ h0 0 1)
    (hcap : R.cells = mcN ∧ R.slots = msN) (hKx : mmKA D cl tys s) (hstr : mmStr B g s) (hret : meth.sig.returnType = ret) (hQm : Qm = MQ below (mmQc sh tg B b g aC D cl tys rt mcN msN h0 Q) args s mcN msN (mmA B))
    (hd : (rt = 0 ∧ decode cc pc = .ok (.return_, 1) ∧ ret = none) ∨ (rt = 1 ∧ decode cc pc = .ok (.ireturn, 1) ∧ ret = some .int) ∨ (rt = 2 ∧ decode cc pc = .ok (.lreturn, 1) ∧ ret = some .long) ∨ (rt = 3 ∧ decode cc pc = .ok (.areturn, 1) ∧ ∃ ty, ret = some ty ∧ ((∃ n, ty = .object n) ∨ ∃ t, ty = .array t)) ∨ (rt = 4 ∧ decode cc pc = .ok (.ireturn, 1) ∧ ret = some .boolean)) :
    mmKS sh tg B b g aC p l e R s m args below meth c H0 D cl nL n0 z0 Qm pc (oRet (fun x h => mmGrow mcN msN h0 h ∧ Q x h) rt) := by
  intro ls st h H locs lsA hp hA
  have hW := hA.wh
  have hcnt := hA.2.2.2.2.2
  have hs := hA.okS
  have key : ∀ (x : Int), (mmGrow mcN msN h0 h ∧ Q x h) → mmOk (h 0 0) (mmRt rt, x) → (((h 0 0).toNat - n0 = mcN ∧ (h 0 1).toNat - z0 = msN) ∧ ∀ t : State, t.heap = H → s.WarmedH t.vm → mmQc sh tg B b g aC D cl tys rt mcN msN h0 Q args s (.returned (mmRv B b g rt x)) t) := by
    intro x hq hok
    obtain ⟨hg, hq⟩ := hq
    have hW3 := hW.2.2.2
    have e : h 0 0 = h0 0 0 + mcN ∧ h 0 1 = h0 0 1 + msN := by
      rcases hg with hg | hg
      · have := hW3.1
        have := hW3.2.1
        omega
      · exact hg
    refine ⟨by omega, fun t ht hw => ⟨⟨x, h, rfl, hq, hok, e, by rw [ht]; exact hW.1, by rw [ht]; exact hW.2.1, mmKA.moved hw.alike hKx, hW3, mmStr.moved hw (fun q z1 z2 => by rw [ht]; have z3 := hW.2.2.1.2.1 q; rw [hH0] at z3; exact z3 z1 z2) hstr⟩, ?_⟩⟩
    have := hW.2.2.1
    rw [hH0] at this
    exact this.F ht
  have hf : ∀ q ∈ locs, mmA B q.base := hW.2.2.1.2.2
  rw [hQm]
  rcases hd with ⟨rfl, hd, rfl⟩ | ⟨rfl, hd, rfl⟩ | ⟨rfl, hd, rfl⟩ | ⟨rfl, hd, ty, rfl, hty⟩ | ⟨rfl, hd, rfl⟩
  · match st, hp, hA, hs with
    | [], hp, hA, hs =>
      obtain ⟨⟨k1, k2⟩, k3⟩ := key 0 hp trivial
      rw [k1, k2]
      exact W.vret hx hb hret k3 hf hd hlocks
  · match st, hp, hA, hs with
    | [⟨t, x⟩], hp, hA, hs =>
      obtain ⟨ht, hp2⟩ := mmG_iff.mp hp
      have e1 : t = 1 := mm_beq ht
      subst e1
      obtain ⟨⟨k1, k2⟩, k3⟩ := key x hp2 (mm_head hs)
      rw [k1, k2]
      exact W.iret hx hb hret k3 hf hd hlocks
  · match st, hp, hA, hs with
    | [⟨t, x⟩], hp, hA, hs =>
      obtain ⟨ht, hp2⟩ := mmG_iff.mp hp
      have e1 : t = 2 := mm_beq ht
      subst e1
      obtain ⟨⟨k1, k2⟩, k3⟩ := key x hp2 (mm_head hs)
      rw [k1, k2]
      exact W.lret hx hb hret k3 hf hd hlocks
  · match st, hp, hA, hs with
    | [⟨t, x⟩], hp, hA, hs =>
      obtain ⟨ht, hp2⟩ := mmG_iff.mp hp
      have e1 : t = 3 := mm_beq ht
      subst e1
      obtain ⟨⟨k1, k2⟩, k3⟩ := key x hp2 (mm_head hs)
      rw [k1, k2]
      refine W.aret (v := mmVal B b g (3, x)) hx hb hret hty ?_ k3 hf hd hlocks
      by_cases e0 : x = 0
      · exact Or.inl (by simp only [mmVal, e0, if_true])
      · exact Or.inr ⟨B + x.toNat, by simp only [mmVal, e0, if_false]⟩
  · match st, hp, hA, hs with
    | [⟨t, x⟩], hp, hA, hs =>
      obtain ⟨ht, hp⟩ := mmG_iff.mp hp
      obtain ⟨h01, hp2⟩ := mmD_iff.mp hp
      have e1 : t = 1 := mm_beq ht
      subst e1
      obtain ⟨⟨k1, k2⟩, k3⟩ := key x hp2 (mm_head hs)
      rw [k1, k2]
      refine W.zret (ty := .boolean) hx hb hret ?_ k3 hf hd hlocks
      rcases h01 with h01 | h01
      · have e1 : x = 0 := h01
        subst e1
        decide
      · have e1 : x = 1 := h01
        subst e1
        decide
/-- the script -/
theorem ks_sld {L : Int} {xs : Int → Int} {k : mmKont} {Ln : Nat} {xs' : Nat → Int32} (hx : p.tables.exec = Jvm.exec) (hb : c.code = cc) (hX : va_X b Ln xs' s H0) (hbl : b < H0.size) (hbB : b ≤ B) (hL : L = (Ln : Int)) (hL2 : Ln < 2147483648) (hxs : ∀ j : Nat, j < Ln → xs j = (xs' j).toInt) (hd : decode cc pc = .ok (.iaload, 1))
    (hk : mmKS sh tg B b g aC p l e R s m args below meth c H0 D cl nL n0 z0 Qm (pc + 1) k) : mmKS sh tg B b g aC p l e R s m args below meth c H0 D cl nL n0 z0 Qm pc (oSld L xs k) := by
  intro ls st h H locs lsA hp hA
  match st, hp, hA with
  | ⟨ti, i⟩ :: ⟨t, x⟩ :: r, hp, hA =>
    obtain ⟨ht, ⟨h2, h3⟩, hp2⟩ := mmG_iff.mp hp
    simp only [Bool.and_eq_true] at ht
    have e1 : t = 4 := mm_beq ht.2
    have e2 : ti = 1 := mm_beq ht.1
    subst e1; subst e2
    simp only [] at h2 h3
    have hs := hA.okS
    have ei : (Int32.ofInt i).toNatClampNeg = i.toNat := mm_cl h2 (by omega)
    have ez : ((i.toNat : Nat) : Int) = i := by omega
    have ev : xs i = (xs' i.toNat).toInt := by rw [← hxs i.toNat (by omega), ez]
    have h4 := hk ls _ h H locs lsA hp2 (hA.stk (mm_cons (show mmOk (h 0 0) (1, xs i) by rw [ev]; exact mm_r32 _) (mm_tail (mm_tail hs))))
    refine va_sld hx hb hX hbl (fun q => by unfold mmA at q; omega) hA.wh.2.2.1 (i := Int32.ofInt i) (mm_in h2 (by omega) (by omega)) hd ?_
    rw [ei]
    rw [List.map_cons] at h4
    have e5 : mmVal B b g (1, xs (1, i).2) = .int (xs' i.toNat) := by
      show Value.int (Int32.ofInt (xs i)) = _
      rw [ev, mm_o32]
    rw [e5] at h4
    exact h4
theorem ks_slen {L : Int} {k : mmKont} {Ln : Nat} {xs' : Nat → Int32} (hx : p.tables.exec = Jvm.exec) (hb : c.code = cc) (hX : va_X b Ln xs' s H0) (hbl : b < H0.size) (hbB : b ≤ B) (hL : L = (Ln : Int)) (hL2 : Ln < 2147483648) (hd : decode cc pc = .ok (.arraylength, 1))
    (hk : mmKS sh tg B b g aC p l e R s m args below meth c H0 D cl nL n0 z0 Qm (pc + 1) k) : mmKS sh tg B b g aC p l e R s m args below meth c H0 D cl nL n0 z0 Qm pc (oSlen L k) := by
  intro ls st h H locs lsA hp hA
  match st, hp, hA with
  | ⟨t, x⟩ :: r, hp, hA =>
    obtain ⟨ht, hp2⟩ := mmG_iff.mp hp
    have e1 : t = 4 := mm_beq ht
    subst e1
    have hs := hA.okS
    have h4 := hk ls _ h H locs lsA hp2 (hA.stk (mm_cons (show mmOk (h 0 0) (1, L) from ⟨by show _ ≤ L; omega, by show L < _; omega⟩) (mm_tail hs)))
    refine va_slen hx hb hX hbl (fun q => by unfold mmA at q; omega) hA.wh.2.2.1 hd ?_
    rw [List.map_cons] at h4
    have e5 : mmVal B b g (1, L) = .int (Int32.ofNat Ln) := by
      show Value.int (Int32.ofInt L) = _
      rw [hL]
      exact congrArg Value.int Int32.ofInt_eq_ofNat
    rw [e5] at h4
    exact h4
end MR6
