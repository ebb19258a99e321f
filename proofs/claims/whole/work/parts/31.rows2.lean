/-! ===== mm: jumps, fields, rows of numbers ===== -/
section MR2
variable {sh : Int → Nat × Nat} {tg : Nat → Nat → Nat} {B b g : Nat} {aC : Nat → ClassId} {p : Program} {l : Launch} {e : Env} {R : Room} {s : State} {m : MethodId} {args : Array Value} {below : List Frame} {meth : Method} {c : Code} {H0 : Heap} {D : va_G} {cl : List vw_C} {nL n0 z0 : Nat} {Qm : State → Prop}
variable {pc : Nat} {k : mmKont} {cc : ByteArray} {X : Nat → mmKont}
theorem mm_lt32 {x y : Int} {n : Int} (hx : mmOk n (1, x)) (hy : mmOk n (1, y)) : (Int32.ofInt x < Int32.ofInt y) ↔ x < y := by
  rw [Int32.lt_iff_toInt_lt, mm_t32 hx.1 hx.2, mm_t32 hy.1 hy.2]
theorem mm_le32 {x y : Int} {n : Int} (hx : mmOk n (1, x)) (hy : mmOk n (1, y)) : (Int32.ofInt x ≤ Int32.ofInt y) ↔ x ≤ y := by
  rw [Int32.le_iff_toInt_le, mm_t32 hx.1 hx.2, mm_t32 hy.1 hy.2]
theorem mm_eq32 {x y : Int} {n : Int} (hx : mmOk n (1, x)) (hy : mmOk n (1, y)) : (Int32.ofInt x = Int32.ofInt y) ↔ x = y := by
  rw [← Int32.toInt_inj, mm_t32 hx.1 hx.2, mm_t32 hy.1 hy.2]
theorem mm_ok0 {n : Int} : mmOk n (1, 0) := ⟨by show (-2147483648 : Int) ≤ 0; omega, by show (0 : Int) < 2147483648; omega⟩
theorem ks_icmp (hx : p.tables.exec = Jvm.exec) (hb : c.code = cc) {cd bl : Nat} {off : Int} {tgt : Nat} (ht : (pc : Int) + off = (tgt : Int))
    (hd : (cd = 0 ∧ decode cc pc = .ok (.if_icmp .eq off, 3)) ∨ (cd = 1 ∧ decode cc pc = .ok (.if_icmp .ne off, 3)) ∨ (cd = 2 ∧ decode cc pc = .ok (.if_icmp .lt off, 3)) ∨ (cd = 3 ∧ decode cc pc = .ok (.if_icmp .ge off, 3)) ∨ (cd = 4 ∧ decode cc pc = .ok (.if_icmp .gt off, 3)) ∨ (cd = 5 ∧ decode cc pc = .ok (.if_icmp .le off, 3)))
    (hk : mmKS sh tg B b g aC p l e R s m args below meth c H0 D cl nL n0 z0 Qm (pc + 3) k) (hX : mmKS sh tg B b g aC p l e R s m args below meth c H0 D cl nL n0 z0 Qm tgt (X bl)) : mmKS sh tg B b g aC p l e R s m args below meth c H0 D cl nL n0 z0 Qm pc (oIcmp X cd bl k) := by
  intro ls st h H locs lsA hp hA
  match st, hp, hA with
  | ⟨t1, y⟩ :: ⟨t2, x⟩ :: r, hp, hA =>
    have hs := hA.2.2.2.1
    obtain ⟨htg, hp1, hp2⟩ := mmG_iff.mp hp
    simp only [Bool.and_eq_true] at htg
    have e1 : t1 = 1 := mm_beq htg.1
    have e2 : t2 = 1 := mm_beq htg.2
    subst e1; subst e2
    have hy := mm_head hs
    have hz := mm_head (mm_tail hs)
    have hA2 := hA.stk (mm_tail (mm_tail hs))
    rcases hd with ⟨rfl, hd⟩ | ⟨rfl, hd⟩ | ⟨rfl, hd⟩ | ⟨rfl, hd⟩ | ⟨rfl, hd⟩ | ⟨rfl, hd⟩
    · exact lv_icmp_eq hx hb hd ht (fun q => hX ls r h H locs lsA (hp1 ((mm_eq32 hz hy).mp q)) hA2) (fun q => hk ls r h H locs lsA (hp2 (fun z => q ((mm_eq32 hz hy).mpr z))) hA2)
    · exact lv_icmp_ne hx hb hd ht (fun q => hX ls r h H locs lsA (hp1 (fun z => q ((mm_eq32 hz hy).mpr z))) hA2) (fun q => hk ls r h H locs lsA (hp2 (fun z => z ((mm_eq32 hz hy).mp q))) hA2)
    · exact lv_icmp_lt hx hb hd ht (fun q => hX ls r h H locs lsA (hp1 ((mm_lt32 hz hy).mp q)) hA2) (fun q => hk ls r h H locs lsA (hp2 (fun z => q ((mm_lt32 hz hy).mpr z))) hA2)
    · exact lv_icmp_ge hx hb hd ht (fun q => hX ls r h H locs lsA (hp1 ((mm_le32 hy hz).mp q)) hA2) (fun q => hk ls r h H locs lsA (hp2 (fun z => q ((mm_le32 hy hz).mpr z))) hA2)
    · exact lv_icmp_gt hx hb hd ht (fun q => hX ls r h H locs lsA (hp1 ((mm_lt32 hy hz).mp q)) hA2) (fun q => hk ls r h H locs lsA (hp2 (fun z => q ((mm_lt32 hy hz).mpr z))) hA2)
    · exact lv_icmp_le hx hb hd ht (fun q => hX ls r h H locs lsA (hp1 ((mm_le32 hz hy).mp q)) hA2) (fun q => hk ls r h H locs lsA (hp2 (fun z => q ((mm_le32 hz hy).mpr z))) hA2)
theorem ks_if (hx : p.tables.exec = Jvm.exec) (hb : c.code = cc) {cd bl : Nat} {off : Int} {tgt : Nat} (ht : (pc : Int) + off = (tgt : Int))
    (hd : (cd = 0 ∧ decode cc pc = .ok (.ifCond .eq off, 3)) ∨ (cd = 1 ∧ decode cc pc = .ok (.ifCond .ne off, 3)) ∨ (cd = 2 ∧ decode cc pc = .ok (.ifCond .lt off, 3)) ∨ (cd = 3 ∧ decode cc pc = .ok (.ifCond .ge off, 3)) ∨ (cd = 4 ∧ decode cc pc = .ok (.ifCond .gt off, 3)) ∨ (cd = 5 ∧ decode cc pc = .ok (.ifCond .le off, 3)))
    (hk : mmKS sh tg B b g aC p l e R s m args below meth c H0 D cl nL n0 z0 Qm (pc + 3) k) (hX : mmKS sh tg B b g aC p l e R s m args below meth c H0 D cl nL n0 z0 Qm tgt (X bl)) : mmKS sh tg B b g aC p l e R s m args below meth c H0 D cl nL n0 z0 Qm pc (oIf X cd bl k) := by
  intro ls st h H locs lsA hp hA
  match st, hp, hA with
  | ⟨t2, x⟩ :: r, hp, hA =>
    have hs := hA.2.2.2.1
    obtain ⟨htg, hp1, hp2⟩ := mmG_iff.mp hp
    have e2 : t2 = 1 := mm_beq htg
    subst e2
    have hz := mm_head hs
    have hy : mmOk (h 0 0) (1, 0) := mm_ok0
    have hA2 := hA.stk (mm_tail hs)
    have e0 : (0 : Int32) = Int32.ofInt 0 := rfl
    rcases hd with ⟨rfl, hd⟩ | ⟨rfl, hd⟩ | ⟨rfl, hd⟩ | ⟨rfl, hd⟩ | ⟨rfl, hd⟩ | ⟨rfl, hd⟩
    · exact lv_if_eq hx hb hd ht (fun q => hX ls r h H locs lsA (hp1 ((mm_eq32 hz hy).mp q)) hA2) (fun q => hk ls r h H locs lsA (hp2 (fun z => q ((mm_eq32 hz hy).mpr z))) hA2)
    · exact lv_if_ne hx hb hd ht (fun q => hX ls r h H locs lsA (hp1 (fun z => q ((mm_eq32 hz hy).mpr z))) hA2) (fun q => hk ls r h H locs lsA (hp2 (fun z => z ((mm_eq32 hz hy).mp q))) hA2)
    · exact lv_if_lt hx hb hd ht (fun q => hX ls r h H locs lsA (hp1 ((mm_lt32 hz hy).mp q)) hA2) (fun q => hk ls r h H locs lsA (hp2 (fun z => q ((mm_lt32 hz hy).mpr z))) hA2)
    · exact lv_if_ge hx hb hd ht (fun q => hX ls r h H locs lsA (hp1 ((mm_le32 hy hz).mp q)) hA2) (fun q => hk ls r h H locs lsA (hp2 (fun z => q ((mm_le32 hy hz).mpr z))) hA2)
    · exact lv_if_gt hx hb hd ht (fun q => hX ls r h H locs lsA (hp1 ((mm_lt32 hy hz).mp q)) hA2) (fun q => hk ls r h H locs lsA (hp2 (fun z => q ((mm_lt32 hy hz).mpr z))) hA2)
    · exact lv_if_le hx hb hd ht (fun q => hX ls r h H locs lsA (hp1 ((mm_le32 hz hy).mp q)) hA2) (fun q => hk ls r h H locs lsA (hp2 (fun z => q ((mm_le32 hz hy).mpr z))) hA2)
theorem ks_goto (hx : p.tables.exec = Jvm.exec) (hb : c.code = cc) {off : Int} {tgt : Nat} (ht : (pc : Int) + off = (tgt : Int)) (hd : decode cc pc = .ok (.goto off, 3)) (hk : mmKS sh tg B b g aC p l e R s m args below meth c H0 D cl nL n0 z0 Qm tgt k) : mmKS sh tg B b g aC p l e R s m args below meth c H0 D cl nL n0 z0 Qm pc k := by
  intro ls st h H locs lsA hp hA
  exact lv_goto hx hb hd ht (hk ls st h H locs lsA hp hA)
theorem mm_tsw {x : Int} {F : Nat → Prop} : ∀ (ts : List Int) (lo : Int), mmTsw x lo ts F → lo ≤ x → x < lo + (ts.length : Int) → ∃ t, ts[(x - lo).toNat]? = some t ∧ F t.toNat
  | [], lo, _, h1, h2 => by simp at h2; omega
  | t :: ts, lo, h, h1, h2 => by
    by_cases e : x = lo
    · subst e
      exact ⟨t, by simp, h.1 rfl⟩
    · obtain ⟨t', a1, a2⟩ := mm_tsw ts (lo + 1) h.2 (by omega) (by simp at h2; omega)
      refine ⟨t', ?_, a2⟩
      have : (x - lo).toNat = (x - (lo + 1)).toNat + 1 := by omega
      rw [this, List.getElem?_cons_succ]
      exact a1
theorem ks_tsw (hx : p.tables.exec = Jvm.exec) (hb : c.code = cc) {d lo hi : Int} {offs : Array Int} {len : Nat} {dt : Int} {ts : List Int} {pcs : Nat → Nat} (hd : decode cc pc = .ok (.tableswitch d lo hi offs, len)) (hn : lo + (ts.length : Int) = hi + 1)
    (h1 : (pc : Int) + d = (pcs dt.toNat : Nat)) (h2 : ∀ (j : Nat) (t : Int), ts[j]? = some t → ∃ off, offs[j]? = some off ∧ (pc : Int) + off = (pcs t.toNat : Nat)) (hX : ∀ bl : Nat, mmKS sh tg B b g aC p l e R s m args below meth c H0 D cl nL n0 z0 Qm (pcs bl) (X bl)) : mmKS sh tg B b g aC p l e R s m args below meth c H0 D cl nL n0 z0 Qm pc (oTsw X lo (dt :: ts)) := by
  intro ls st h H locs lsA hp hA
  match st, hp, hA with
  | ⟨t1, x⟩ :: r, hp, hA =>
    have hs := hA.2.2.2.1
    obtain ⟨htg, hp1, hp2⟩ := mmG_iff.mp hp
    have e2 : t1 = 1 := mm_beq htg
    subst e2
    have hz := mm_head hs
    have hA2 := hA.stk (mm_tail hs)
    have ex : (Int32.ofInt x).toInt = x := mm_t32 hz.1 hz.2
    simp only [] at hp1 hp2
    by_cases q : x < lo ∨ hi < x
    · refine lv_tableOut hx hb hd (by rw [ex]; exact q) h1 (hX _ ls r h H locs lsA (hp2 ?_) hA2)
      rcases q with q | q
      · exact Or.inl q
      · exact Or.inr (by omega)
    · obtain ⟨t, a1, a2⟩ := mm_tsw ts lo hp1 (by omega) (by omega)
      obtain ⟨off, b1, b2⟩ := h2 _ _ a1
      exact lv_tableIn hx hb hd (by rw [ex]; omega) (by rw [ex]; omega) (by rw [ex]; exact b1) b2 (hX _ ls r h H locs lsA a2 hA2)
theorem mm_lsw {x : Int} {F : Nat → Prop} {Dp : Prop} {pc : Nat} {pcs : Nat → Nat} {d : Int} {G : Int → Prop} (hF : ∀ t : Nat, F t → ∀ off : Int, (pc : Int) + off = (pcs t : Nat) → G off) (hD : Dp → G d) :
    ∀ (ps : List (Int × Int)) (ts : List Int), mmLsw x ts F Dp → ts.length = 2 * ps.length → (∀ (j : Nat) (q : Int × Int), ps[j]? = some q → ts[2 * j]? = some q.1 ∧ ∃ t, ts[2 * j + 1]? = some t ∧ (pc : Int) + q.2 = (pcs t.toNat : Nat)) → G (Op.lookupswitch.offset ps d x)
  | [], [], h, _, _ => by
    rw [show Op.lookupswitch.offset [] d x = d from rfl]
    exact hD h
  | [], _ :: _, _, hl, _ => by simp at hl
  | q :: ps, [], _, hl, _ => by simp at hl
  | q :: ps, [_], _, hl, _ => by simp at hl; omega
  | q :: ps, a :: t :: ts, h, hl, hq => by
    obtain ⟨e1, t', e2, e3⟩ := hq 0 q rfl
    simp at e1 e2
    subst e1; subst e2
    rw [Op.lookupswitch.offset_cons]
    by_cases e : x = q.1
    · have := hF _ (h.1 (by rw [e])) q.2 e3
      simp [e]
      exact this
    · have := mm_lsw hF hD ps ts (h.2 (fun z => e z)) (by simp at hl ⊢; omega) (fun j w hj => by
        obtain ⟨f1, t2, f2, f3⟩ := hq (j + 1) w (by simpa using hj)
        have g1 : 2 * (j + 1) = 2 * j + 1 + 1 := by omega
        rw [g1] at f1 f2
        exact ⟨by simpa using f1, t2, by simpa using f2, f3⟩)
      first
        | (rw [if_neg (fun z => e z)]; exact this)
        | (rw [if_neg (fun z => e z.symm)]; exact this)
theorem ks_lsw (hx : p.tables.exec = Jvm.exec) (hb : c.code = cc) {d : Int} {ps : Array (Int × Int)} {len : Nat} {dt : Int} {ts : List Int} {pcs : Nat → Nat} (hd : decode cc pc = .ok (.lookupswitch d ps, len)) (hsorted : (ps.toList.zip (ps.toList.drop 1)).all (fun (a, next) => a.1 < next.1) = true)
    (h1 : (pc : Int) + d = (pcs dt.toNat : Nat)) (hl : ts.length = 2 * ps.toList.length) (h2 : ∀ (j : Nat) (q : Int × Int), ps.toList[j]? = some q → ts[2 * j]? = some q.1 ∧ ∃ t, ts[2 * j + 1]? = some t ∧ (pc : Int) + q.2 = (pcs t.toNat : Nat)) (hX : ∀ bl : Nat, mmKS sh tg B b g aC p l e R s m args below meth c H0 D cl nL n0 z0 Qm (pcs bl) (X bl)) : mmKS sh tg B b g aC p l e R s m args below meth c H0 D cl nL n0 z0 Qm pc (oLsw X (dt :: ts)) := by
  intro ls st h H locs lsA hp hA
  match st, hp, hA with
  | ⟨t1, x⟩ :: r, hp, hA =>
    have hs := hA.2.2.2.1
    obtain ⟨htg, hp1⟩ := mmG_iff.mp hp
    have e2 : t1 = 1 := mm_beq htg
    subst e2
    have hz := mm_head hs
    have hA2 := hA.stk (mm_tail hs)
    have ex : (Int32.ofInt x).toInt = x := mm_t32 hz.1 hz.2
    have key := mm_lsw (G := fun off => ∃ tgt : Nat, (pc : Int) + off = (tgt : Int) ∧ W p l e R s m args below meth c H locs ((h 0 0).toNat - n0) ((h 0 1).toNat - z0) Qm (F0 m tgt lsA (r.map (mmVal B b g)))) (pcs := pcs) (pc := pc) (d := d)
      (fun t ht off ho => ⟨_, ho, hX _ ls r h H locs lsA ht hA2⟩) (fun hd => ⟨_, h1, hX _ ls r h H locs lsA hd hA2⟩) ps.toList ts hp1 hl h2
    obtain ⟨tgt, k1, k2⟩ := key
    exact lv_lookup hx hb hd hsorted (by rw [ex]) k1 k2
end MR2
