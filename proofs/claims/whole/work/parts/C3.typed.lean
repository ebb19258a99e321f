/-! ===== mm: tokens read are well formed, and no more than bytes ===== -/
theorem chkR_app (tk : Int → Int) : ∀ (a b : Nat) (k : Int) (ks : List Bool), chkR tk (a + b) k ks = (chkR tk a k ks).bind (chkR tk b (k + a))
  | 0, b, k, ks => by
    rw [Nat.zero_add, show k + ((0 : Nat) : Int) = k by omega]
    rfl
  | a + 1, b, k, ks => by
    rw [show a + 1 + b = (a + b) + 1 by omega]
    show (chk1 (tk k) ks).bind (chkR tk (a + b) (k + 1)) = ((chk1 (tk k) ks).bind (chkR tk a (k + 1))).bind (chkR tk b (k + ((a + 1 : Nat) : Int)))
    cases chk1 (tk k) ks with
    | none => rfl
    | some ks' =>
      show chkR tk (a + b) (k + 1) ks' = (chkR tk a (k + 1) ks').bind _
      rw [chkR_app tk a b (k + 1) ks', show k + 1 + (a : Int) = k + ((a + 1 : Nat) : Int) by omega]
theorem chkR_congr {tk tk' : Int → Int} : ∀ (n : Nat) (k : Int) (ks : List Bool), (∀ j, k ≤ j → j < k + n → tk j = tk' j) → chkR tk n k ks = chkR tk' n k ks
  | 0, _, _, _ => rfl
  | n + 1, k, ks, h => by
    show (chk1 (tk k) ks).bind (chkR tk n (k + 1)) = (chk1 (tk' k) ks).bind (chkR tk' n (k + 1))
    rw [h k (by omega) (by omega)]
    cases chk1 (tk' k) ks with
    | none => rfl
    | some ks' => exact chkR_congr n (k + 1) ks' (fun j j1 j2 => h j (by omega) (by omega))
/-- going on: tokens ahead stay, the new ones make one value of the kind kd -/
def Adv (v : Int) (g g' : mmH) : Prop := g 3 0 = 0 ∧ g 3 4 ≤ g' 3 4 ∧ g (v + 33) 1 ≤ g' (v + 33) 1 ∧ g' (v + 33) 1 - g (v + 33) 1 ≤ g' 3 4 - g 3 4 ∧ ∀ j, j < g (v + 33) 1 → g' (v + 38) j = g (v + 38) j
def Typ (v : Int) (dp : Nat) (kd : Bool) (g g' : mmH) : Prop := ∀ ks : List Bool, ks.length + dp ≤ 64 → chkR (g' (v + 38)) (g' (v + 33) 1 - g (v + 33) 1).toNat (g (v + 33) 1) ks = some (kd :: ks)
def AdT (v : Int) (dp : Nat) (kd : Bool) (g g' : mmH) : Prop := g' 3 0 = 0 → Adv v g g' ∧ Typ v dp kd g g'
section AD
variable {v : Int} {g g' g'' : mmH} {dp : Nat} {kd : Bool}
theorem Adv.tr (a : Adv v g g') (b : Adv v g' g'') : Adv v g g'' := by
  obtain ⟨a1, a2, a3, a4, a5⟩ := a
  obtain ⟨b1, b2, b3, b4, b5⟩ := b
  exact ⟨a1, by omega, by omega, by omega, fun j hj => by rw [b5 j (by omega), a5 j hj]⟩
/-- blanks, words, signs: no token -/
def Plain (v : Int) (g g' : mmH) : Prop := g' 3 0 = 0 → g 3 0 = 0 ∧ g 3 4 ≤ g' 3 4 ∧ g' (v + 33) 1 = g (v + 33) 1 ∧ ∀ j, g' (v + 38) j = g (v + 38) j
theorem Plain.adv (h : Plain v g g') (ok : g' 3 0 = 0) : Adv v g g' := by
  obtain ⟨a, b, c, e⟩ := h ok
  exact ⟨a, b, by omega, by omega, fun j _ => e j⟩
theorem Plain.tr (a : Plain v g g') (b : Plain v g' g'') : Plain v g g'' := fun ok => by
  obtain ⟨b1, b2, b3, b4⟩ := b ok
  obtain ⟨a1, a2, a3, a4⟩ := a b1
  exact ⟨a1, by omega, by omega, fun j => by rw [b4, a4]⟩
theorem pl_sk (hv : v = 5 ∨ v = 46) (hS : Sc v g) : Plain v g (skH g) := fun ok => by
  have h := skH_at hS
  refine ⟨by rw [skH_30] at ok; exact ok, h.1, ?_, fun j => ?_⟩
  · unfold skH; rw [mmS_cell (by omega)]
  · unfold skH; rw [mmS_cell (by omega)]
theorem pl_ps (hv : v = 5 ∨ v = 46) (hS : Sc v g) : Plain v g (psH g) := fun ok => by
  have h := leV_ge hS
  unfold psH at ok ⊢
  rw [mmS_slot, if_neg (by omega), mmS_slot, if_neg (by omega)] at ok
  refine ⟨ok, ?_, ?_, fun j => ?_⟩
  · rw [mmS_slot, if_neg (by omega), mmS_slot, if_pos rfl]; exact h.1
  · rw [mmS_cell (by omega), mmS_cell (by omega)]
  · rw [mmS_cell (by omega), mmS_cell (by omega)]
theorem pl_stp (hv : v = 5 ∨ v = 46) : Plain v g (stpH g) := fun ok => by
  unfold stpH at ok ⊢
  rw [mmS_slot, if_neg (by omega)] at ok
  refine ⟨ok, ?_, ?_, fun j => ?_⟩
  · rw [mmS_slot, if_pos rfl]; omega
  · rw [mmS_cell (by omega)]
  · rw [mmS_cell (by omega)]
theorem fl_bad {w p : Int} (hw : w ≠ 0) : flH w p g 3 0 ≠ 0 := by
  unfold flH
  by_cases c : g 3 0 ≠ 0
  · rw [if_pos c]; exact c
  · rw [if_neg c, mmS_slot, if_neg (by omega), mmS_slot, if_pos rfl]; exact hw
theorem ts_ok {c : Int} (ok : tsH c g 3 0 = 0) : hrV (skH g) = c ∧ tsH c g = stpH (skH g) := by
  unfold tsH at ok ⊢
  by_cases q : hrV (skH g) = c
  · rw [if_pos q]; exact ⟨q, rfl⟩
  · rw [if_neg q] at ok; exact absurd ok (fl_bad (by decide))
theorem pl_ts {c : Int} (hv : v = 5 ∨ v = 46) (hS : Sc v g) : Plain v g (tsH c g) := fun ok => by
  have h := ts_ok ok
  rw [h.2] at ok ⊢
  exact (pl_sk hv hS).tr (pl_stp hv) ok
theorem may_ok {o : Int} (ok : mayH o g 3 0 = 0) : Plain v g (mayH o g) := fun _ => by
  have h := mayH_ok ok
  rw [h.2] at ok ⊢
  exact ⟨ok, Int.le_refl _, rfl, fun _ => rfl⟩
theorem nu_ok {lo hi : Int} (hS : Sc v g) (ok : nuH lo hi g 3 0 = 0) : nuH lo hi g = nuT (skH g) ∧ nuE (skH g) ≠ skH g 3 4 ∧ lo ≤ nuV (skH g) ∧ nuV (skH g) ≤ hi ∧ ¬ isDg (hrV (nuT (skH g))) = true ∧ skH g 3 4 ≠ skH g 3 6 := by
  unfold nuH nuF at ok ⊢
  by_cases c1 : nuE (skH g) = skH g 3 4 ∨ skH g 3 4 = skH g 3 6
  · rw [if_pos c1] at ok; exact absurd ok (fl_bad (by decide))
  · rw [if_neg c1] at ok ⊢
    by_cases c2 : isDg (hrV (nuT (skH g))) = true
    · rw [if_pos c2] at ok; exact absurd ok (fl_bad (by decide))
    · rw [if_neg c2] at ok ⊢
      by_cases c3 : nuV (skH g) < lo ∨ hi < nuV (skH g)
      · rw [if_pos c3] at ok; exact absurd ok (fl_bad (by decide))
      · rw [if_neg c3]
        exact ⟨rfl, by omega, by omega, by omega, c2, by omega⟩
/-- a token is put -/
theorem put_in {t : Int} (hv : v = 5 ∨ v = 46) (hl : g (v + 33) 1 < 1600) : putT v t g (v + 33) 1 = g (v + 33) 1 + 1 ∧ (∀ j, putT v t g (v + 38) j = if j = g (v + 33) 1 then t else g (v + 38) j) ∧ putT v t g 3 = g 3 := by
  unfold putT
  rw [if_pos hl]
  refine ⟨by rw [mmS_slot, if_pos rfl], fun j => by rw [mmS_cell (by omega), mmS_slot], ?_⟩
  rw [mmS_row (by omega), mmS_row (by omega)]
/-- one value, then a token that joins or stands -/
theorem Typ_put {g0 : mmH} {t : Int} {dp : Nat} {kd : Bool} {st : List Bool} (hv : v = 5 ∨ v = 46) (hL : g0 (v + 33) 1 ≤ g (v + 33) 1) (hl : g (v + 33) 1 < 1600) (h1 : ∀ ks : List Bool, ks.length + dp ≤ 64 → chkR (g (v + 38)) (g (v + 33) 1 - g0 (v + 33) 1).toNat (g0 (v + 33) 1) ks = some (st ++ ks)) (h2 : ∀ ks : List Bool, ks.length + dp ≤ 64 → chk1 t (st ++ ks) = some (kd :: ks)) : Typ v dp kd g0 (putT v t g) := by
  obtain ⟨p1, p2, p3⟩ := put_in (t := t) hv hl
  intro ks hk
  rw [p1, show (g (v + 33) 1 + 1 - g0 (v + 33) 1).toNat = (g (v + 33) 1 - g0 (v + 33) 1).toNat + 1 by omega, chkR_app]
  rw [chkR_congr (tk' := g (v + 38)) _ _ ks (fun j j1 j2 => by rw [p2, if_neg (by omega)]), h1 ks hk]
  show chkR (putT v t g (v + 38)) 1 _ (st ++ ks) = _
  show (chk1 (putT v t g (v + 38) _) (st ++ ks)).bind _ = _
  rw [p2, if_pos (by omega), h2 ks hk]
  rfl
theorem Adv_put {g0 : mmH} {t : Int} (hv : v = 5 ∨ v = 46) (a : Adv v g0 g) (hl : g (v + 33) 1 < 1600) (h2 : g (v + 33) 1 - g0 (v + 33) 1 + 1 ≤ g 3 4 - g0 3 4) : Adv v g0 (putT v t g) := by
  obtain ⟨p1, p2, p3⟩ := put_in (t := t) hv hl
  obtain ⟨a1, a2, a3, a4, a5⟩ := a
  refine ⟨a1, by rw [p3]; exact a2, by rw [p1]; omega, by rw [p1, p3]; omega, fun j hj => ?_⟩
  rw [p2, if_neg (by omega)]
  exact a5 j hj
/-- values on end -/
theorem Typ_seq {g0 : mmH} {dp dq : Nat} {st st2 : List Bool} (hv : v = 5 ∨ v = 46) (hL : g0 (v + 33) 1 ≤ g (v + 33) 1) (a : Adv v g g') (h1 : ∀ ks : List Bool, ks.length + dp ≤ 64 → chkR (g (v + 38)) (g (v + 33) 1 - g0 (v + 33) 1).toNat (g0 (v + 33) 1) ks = some (st ++ ks)) (h2 : ∀ ks : List Bool, ks.length + dq ≤ 64 → chkR (g' (v + 38)) (g' (v + 33) 1 - g (v + 33) 1).toNat (g (v + 33) 1) ks = some (st2 ++ ks)) (hd : dq + st.length ≤ dp) : ∀ ks : List Bool, ks.length + dp ≤ 64 → chkR (g' (v + 38)) (g' (v + 33) 1 - g0 (v + 33) 1).toNat (g0 (v + 33) 1) ks = some (st2 ++ (st ++ ks)) := by
  obtain ⟨a1, a2, a3, a4, a5⟩ := a
  intro ks hk
  rw [show (g' (v + 33) 1 - g0 (v + 33) 1).toNat = (g (v + 33) 1 - g0 (v + 33) 1).toNat + (g' (v + 33) 1 - g (v + 33) 1).toNat by omega, chkR_app]
  rw [chkR_congr (tk' := g (v + 38)) _ _ ks (fun j j1 j2 => a5 j (by omega)), h1 ks hk]
  show chkR (g' (v + 38)) _ _ (st ++ ks) = _
  rw [show g0 (v + 33) 1 + (((g (v + 33) 1 - g0 (v + 33) 1).toNat : Nat) : Int) = g (v + 33) 1 by omega]
  exact h2 _ (by rw [List.length_append]; omega)
theorem Typ_none {g0 : mmH} (h : g (v + 33) 1 = g0 (v + 33) 1) {dp : Nat} : ∀ ks : List Bool, ks.length + dp ≤ 64 → chkR (g (v + 38)) (g (v + 33) 1 - g0 (v + 33) 1).toNat (g0 (v + 33) 1) ks = some ([] ++ ks) := fun ks _ => by
  rw [h, show (g0 (v + 33) 1 - g0 (v + 33) 1).toNat = 0 by omega]
  rfl
theorem tks {ks : List Bool} : (∀ t, 0 ≤ t → t < 10000 → ks.length < 64 → chk1 t ks = some (false :: ks)) ∧ (∀ t, (t = 10203 ∨ t = 10204 ∨ t = 10211 ∨ t = 10214 ∨ t = 10222) → ks.length < 64 → chk1 t ks = some (false :: ks)) ∧ (ks.length < 64 → chk1 10226 ks = some (true :: ks)) ∧ chk1 10225 (true :: ks) = some (true :: ks) ∧ (∀ t, (t = 10223 ∨ t = 10224) → chk1 t (true :: true :: ks) = some (true :: ks)) ∧ (∀ t, (t = 10060 ∨ t = 10061 ∨ t = 10062) → chk1 t (false :: false :: ks) = some (true :: ks)) ∧ (∀ t, (t = 10042 ∨ t = 10043 ∨ t = 10045 ∨ t = 10047 ∨ t = 10227 ∨ t = 10228) → chk1 t (false :: false :: ks) = some (false :: ks)) := by
  refine ⟨fun t t1 t2 hl => ?_, fun t ht hl => ?_, fun hl => ?_, ?_, fun t ht => ?_, fun t ht => ?_, fun t ht => ?_⟩
  · have : tkS t = 0 := by unfold tkS; rw [if_pos ⟨t1, t2⟩]
    unfold chk1
    rw [this]
    simp only []
    rw [if_pos hl]
  · rcases ht with q | q | q | q | q <;> subst q <;> unfold chk1 <;> simp only [show tkS 10203 = 0 by decide, show tkS 10204 = 0 by decide, show tkS 10211 = 0 by decide, show tkS 10214 = 0 by decide, show tkS 10222 = 0 by decide] <;> rw [if_pos hl]
  · unfold chk1
    simp only [show tkS 10226 = 1 by decide]
    rw [if_pos hl]
  · unfold chk1
    simp only [show tkS 10225 = 2 by decide]
  · rcases ht with q | q <;> subst q <;> unfold chk1 <;> simp only [show tkS 10223 = 3 by decide, show tkS 10224 = 3 by decide]
  · rcases ht with q | q | q <;> subst q <;> unfold chk1 <;> simp only [show tkS 10060 = 4 by decide, show tkS 10061 = 4 by decide, show tkS 10062 = 4 by decide]
  · rcases ht with q | q | q | q | q | q <;> subst q <;> unfold chk1 <;> simp only [show tkS 10042 = 5 by decide, show tkS 10043 = 5 by decide, show tkS 10045 = 5 by decide, show tkS 10047 = 5 by decide, show tkS 10227 = 5 by decide, show tkS 10228 = 5 by decide]
end AD
