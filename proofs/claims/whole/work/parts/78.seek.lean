/-! ===== mm: the way itself ===== -/
/-- the first from k on, of n, that has p; else d -/
def fstR (p : Int → Bool) (dflt : Int) : Nat → Int → Int
  | 0, _ => dflt
  | n + 1, k => if p k = true then k else fstR p dflt n (k + 1)
theorem fstR_spec {p : Int → Bool} {dflt : Int} : ∀ (n : Nat) (k : Int), (∃ y, k ≤ y ∧ y < k + n ∧ p y = true) → k ≤ fstR p dflt n k ∧ fstR p dflt n k < k + n ∧ p (fstR p dflt n k) = true
  | 0, k, h => by obtain ⟨y, h1, h2, _⟩ := h; omega
  | n + 1, k, h => by
    unfold fstR
    by_cases e : p k = true
    · rw [if_pos e]; exact ⟨Int.le_refl _, by omega, e⟩
    · rw [if_neg e]
      obtain ⟨y, h1, h2, h3⟩ := h
      have : y ≠ k := fun q => e (by rw [← q]; exact h3)
      obtain ⟨q1, q2, q3⟩ := fstR_spec (p := p) (dflt := dflt) n (k + 1) ⟨y, by omega, by omega, h3⟩
      exact ⟨by omega, by omega, q3⟩
theorem fstR_congr {p q : Int → Bool} {dflt : Int} : ∀ (n : Nat) (k : Int), (∀ y, k ≤ y → y < k + n → p y = q y) → fstR p dflt n k = fstR q dflt n k
  | 0, _, _ => rfl
  | n + 1, k, h => by
    unfold fstR
    rw [h k (Int.le_refl _) (by omega), fstR_congr n (k + 1) (fun y h1 h2 => h y (by omega) (by omega))]
section NX
variable (n : Int) (E : Int → Int → Bool) (w : Int → Int) (last : Int) (V : wV)
def nxP (x y : Int) : Bool := E x y && decide (V y ≠ wFar ∧ (V y).1 + w y = (V x).1 ∧ (V y).2 + 1 = (V x).2)
/-- the lot that comes next -/
def nx (x : Int) : Int := fstR (nxP E w V x) last n.toNat 0
def pth : Nat → Int → Int
  | 0, x => x
  | k + 1, x => nx n E w last V (pth k x)
end NX
section NY
variable {n : Int} {E E' : Int → Int → Bool} {w w' : Int → Int} {last : Int}
theorem rx_congr {V : wV} {a b : Int} (hE : E a b = E' a b) (hw : w b = w' b) : rx E w a b V = rx E' w' a b V := by
  unfold rx
  rw [hE, hw]
theorem rxs_congr (hE : ∀ a b, 0 ≤ a → a < n → 0 ≤ b → b < n → E a b = E' a b) (hw : ∀ b, 0 ≤ b → b < n → w b = w' b) (k : Nat) (V : wV) : rxs n E w k V = rxs n E' w' k V := by
  unfold rxs
  refine upI_congr _ _ _ (fun _ V' _ _ => ?_)
  unfold rxRnd
  refine upTo_congr (fun a V'' a1 a2 => ?_)
  unfold rxRow
  exact upTo_congr (fun b V3 b1 b2 => rx_congr (hE a b a1 a2 b1 b2) (hw b b1 b2))
theorem dis_congr (hE : ∀ a b, 0 ≤ a → a < n → 0 ≤ b → b < n → E a b = E' a b) (hw : ∀ b, 0 ≤ b → b < n → w b = w' b) : dis n E w last = dis n E' w' last := rxs_congr hE hw _ _
theorem wOk_congr (hE : ∀ a b, 0 ≤ a → a < n → 0 ≤ b → b < n → E a b = E' a b) (hw : ∀ b, 0 ≤ b → b < n → w b = w' b) (h : wOk n E w) : wOk n E' w' := fun a x a1 a2 x1 x2 e => by
  rw [← hw x x1 x2]
  exact h a x a1 a2 x1 x2 (by rw [hE a x a1 a2 x1 x2]; exact e)
theorem nx_congr {V : wV} (hE : ∀ a b, 0 ≤ a → a < n → 0 ≤ b → b < n → E a b = E' a b) (hw : ∀ b, 0 ≤ b → b < n → w b = w' b) {x : Int} (x1 : 0 ≤ x) (x2 : x < n) : nx n E w last V x = nx n E' w' last V x := by
  unfold nx
  refine fstR_congr _ _ (fun y y1 y2 => ?_)
  unfold nxP
  rw [hE x y x1 x2 y1 (by omega), hw y y1 (by omega)]
/-- what the next one is -/
theorem nx_ok (hn : n ≤ 10) (hw : wOk n E w) (hl1 : 0 ≤ last) (hl2 : last < n) {x : Int} (x1 : 0 ≤ x) (x2 : x < n) (hx : x ≠ last) (hf : dis n E w last x ≠ wFar) :
    0 ≤ nx n E w last (dis n E w last) x ∧ nx n E w last (dis n E w last) x < n ∧ E x (nx n E w last (dis n E w last) x) = true ∧ dis n E w last (nx n E w last (dis n E w last) x) ≠ wFar ∧
      (dis n E w last (nx n E w last (dis n E w last) x)).1 + w (nx n E w last (dis n E w last) x) = (dis n E w last x).1 ∧ (dis n E w last (nx n E w last (dis n E w last) x)).2 + 1 = (dis n E w last x).2 := by
  obtain ⟨y, y1, y2, y3, y4, y5, y6⟩ := dis_next hn hw hl1 hl2 x1 x2 hx hf
  have := fstR_spec (p := nxP E w (dis n E w last) x) (dflt := last) n.toNat 0 ⟨y, y1, by omega, by unfold nxP; rw [y3, decide_eq_true ⟨y4, y5.symm, y6.symm⟩]; rfl⟩
  obtain ⟨q1, q2, q3⟩ := this
  have q4 : nxP E w (dis n E w last) x (nx n E w last (dis n E w last) x) = true := q3
  unfold nxP at q4
  simp only [Bool.and_eq_true, decide_eq_true_eq] at q4
  refine ⟨q1, ?_, q4.1, q4.2.1, q4.2.2.1, q4.2.2.2⟩
  have : nx n E w last (dis n E w last) x < 0 + (n.toNat : Int) := q2
  omega
/-- where one is behind k steps -/
theorem pth_ok (hn : n ≤ 10) (hw : wOk n E w) (hl1 : 0 ≤ last) (hl2 : last < n) {x : Int} (x1 : 0 ≤ x) (x2 : x < n) (hf : dis n E w last x ≠ wFar) : ∀ (k : Nat), (k : Int) ≤ (dis n E w last x).2 →
    0 ≤ pth n E w last (dis n E w last) k x ∧ pth n E w last (dis n E w last) k x < n ∧ dis n E w last (pth n E w last (dis n E w last) k x) ≠ wFar ∧ (dis n E w last (pth n E w last (dis n E w last) k x)).2 + k = (dis n E w last x).2
  | 0, _ => ⟨x1, x2, hf, by simp [pth]⟩
  | k + 1, hk => by
    obtain ⟨p1, p2, p3, p4⟩ := pth_ok hn hw hl1 hl2 x1 x2 hf k (by omega)
    have hne : pth n E w last (dis n E w last) k x ≠ last := fun q => by
      have := (dis_zero hn hw hl1 hl2 p1 p2 p3).mpr q
      omega
    obtain ⟨q1, q2, q3, q4, q5, q6⟩ := nx_ok hn hw hl1 hl2 p1 p2 hne p3
    exact ⟨q1, q2, q4, by show (dis n E w last (nx n E w last (dis n E w last) (pth n E w last (dis n E w last) k x))).2 + ((k + 1 : Nat) : Int) = _; omega⟩
theorem pth_last (hn : n ≤ 10) (hw : wOk n E w) (hl1 : 0 ≤ last) (hl2 : last < n) {x : Int} (x1 : 0 ≤ x) (x2 : x < n) (hf : dis n E w last x ≠ wFar) {k : Nat} (hk : (k : Int) ≤ (dis n E w last x).2) : pth n E w last (dis n E w last) k x = last ↔ (k : Int) = (dis n E w last x).2 := by
  obtain ⟨p1, p2, p3, p4⟩ := pth_ok hn hw hl1 hl2 x1 x2 hf k hk
  rw [← dis_zero hn hw hl1 hl2 p1 p2 p3]
  omega
end NY
section SKA
variable {d : Nat} {h : mmH} {Q : Int → mmH → Prop}
theorem pA_nextFrom {V : wV} {h' : mmH} {a : Int} (hn0 : 0 ≤ h 96 0) (hn : h 96 0 ≤ 10) (hw : wOk (h 96 0) (eB h) (h 98)) (hR : rsI h V h') (a1 : 0 ≤ a) (a2 : a < h 96 0) (hf : V a ≠ wFar)
    (hy : Q (nx (h 96 0) (eB h) (h 98) (h 96 2) V a) h') : qC tFA (d + 2) k_Walk_nextFrom [96, a] h' Q := by
  have c96 : ∀ j, h' 96 j = h 96 j := fun j => hR.1 96 j (by omega)
  have key : ∀ (m : Nat) (i : Int), i + m = h 96 0 → 0 ≤ i → Q (fstR (nxP (eB h) (h 98) V a) (h 96 2) m i) h' → qB tFA (d + 1) k_Walk_nextFrom (h' 0 0) (h' 0 1) Q 1 [(3, 96), (1, a), (1, i)] [] h' := by
    intro m
    induction m with
    | zero =>
      intro i hi i0 hq
      refine TA_Walk_nextFrom_1 _ _ _ _ _ _ _ ⟨fun _ => ?_, fun c => absurd (by rw [c96]; omega) c⟩
      rw [c96]; exact hq
    | succ m ih =>
      intro i hi i0 hq
      refine TA_Walk_nextFrom_1 _ _ _ _ _ _ _ ⟨fun c => absurd c (by rw [c96]; omega), fun _ => pA_restBy hn hw hR a1 a2 i0 (by omega) (mmD_of (by omega) ?_)⟩
      have va := wInv_fin hR.2.2 hn a1 a2 hf
      have hEa : h' 100 a = ky (V a) := by rw [hR.2.1 a a1 (by omega), if_pos ⟨a2, hf⟩]
      rw [mAdd_ok (a := i) (by omega) (by omega), hEa]
      unfold fstR at hq
      refine ⟨fun c => ih (i + 1) (by omega) (by omega) ?_, fun c => ?_⟩
      · rw [if_neg (fun q => c ?_)] at hq
        · exact hq
        · unfold nxP at q
          simp only [Bool.and_eq_true, decide_eq_true_eq] at q
          rw [if_pos ⟨q.1, q.2.1⟩]
          unfold ky
          omega
      · have c := Decidable.of_not_not c
        by_cases e : eB h a i = true ∧ V i ≠ wFar
        · rw [if_pos e] at c
          have vi := wInv_fin hR.2.2 hn i0 (by omega) e.2
          rw [if_pos] at hq
          · exact hq
          · unfold nxP
            unfold ky at c
            rw [e.1, decide_eq_true ⟨e.2, by omega, by omega⟩]
            rfl
        · rw [if_neg e] at c
          have := wInv_sm hR.2.2 hn a1 a2 hf
          omega
  exact qC_intro (TA_Walk_nextFrom_0 _ _ _ _ _ _ (key (h 96 0).toNat 0 (by omega) (Int.le_refl _) hy))
/-- the way is laid out -/
def wayIA (h : mmH) (st : Int) (h' : mmH) : Prop :=
  Fr (fun k i => k = 100 ∨ k = 99 ∨ (k = 96 ∧ (i = 4 ∨ i = 5))) h h' ∧ h' 96 4 = (dis (h 96 0) (eB h) (h 98) (h 96 2) (h 96 1)).1 ∧ h' 96 5 = st ∧
  (∀ k : Nat, (k : Int) < st → h' 99 k = pth (h 96 0) (eB h) (h 98) (h 96 2) (dis (h 96 0) (eB h) (h 98) (h 96 2)) (k + 1) (h 96 1))
theorem pA_seek (hn0 : 0 ≤ h 96 0) (hn : h 96 0 ≤ 10) (hw : wOk (h 96 0) (eB h) (h 98)) (hl1 : 0 ≤ h 96 2) (hl2 : h 96 2 < h 96 0) (hs1 : 0 ≤ h 96 1) (hs2 : h 96 1 < h 96 0)
    (hno : dis (h 96 0) (eB h) (h 98) (h 96 2) (h 96 1) = wFar → ∀ h', Fr (fun k i => k = 100 ∨ k = 99 ∨ (k = 96 ∧ (i = 4 ∨ i = 5))) h h' → Q 0 h')
    (hy : dis (h 96 0) (eB h) (h 98) (h 96 2) (h 96 1) ≠ wFar → ∀ h', wayIA h (dis (h 96 0) (eB h) (h 98) (h 96 2) (h 96 1)).2 h' → Q 1 h') : qC tFA (d + 3) k_Walk_seek [96] h Q := by
  refine qC_intro (TA_Walk_seek_0 _ _ _ _ _ (pA_measureRest hn0 hn hw hl1 hl2 (fun h1 hR => ?_)))
  have hI := dis_inv hn hw hl1 hl2
  have c96 : ∀ j, h1 96 j = h 96 j := fun j => hR.1 96 j (by omega)
  have hE := hR.2.1 (h 96 1) hs1 (by omega)
  have F1 : Fr (fun k i => k = 100 ∨ k = 99 ∨ (k = 96 ∧ (i = 4 ∨ i = 5))) h h1 := hR.1.mono (fun _ _ q => Or.inl q)
  simp only [mmD_iff]
  rw [c96, hE]
  generalize hV : dis (h 96 0) (eB h) (h 98) (h 96 2) = V at *
  by_cases hf : V (h 96 1) = wFar
  · rw [if_neg (fun q => q.2 hf)]
    exact ⟨by omega, fun c => absurd c (by omega), fun _ => hno hf h1 F1⟩
  · rw [if_pos ⟨hs2, hf⟩]
    have vs := wInv_fin hI hn hs1 hs2 hf
    have ks := wInv_sm hI hn hs1 hs2 hf
    refine ⟨by omega, fun _ => ⟨by omega, ?_⟩, fun c => absurd (by omega) c⟩
    have hdiv : mDiv (ky (V (h 96 1))) 16 = (V (h 96 1)).1 := by
      have e : (ky (V (h 96 1))).tdiv 16 = (V (h 96 1)).1 := by
        rw [Int.tdiv_eq_ediv_of_nonneg ks.1]
        unfold ky
        omega
      rw [mDiv_def, Int32.toInt_div_of_ne_left _ _ (fun q => by
        have := congrArg Int32.toInt q
        rw [Int32.toInt_ofInt_of_le (by omega) (by omega)] at this
        rw [this] at ks
        exact absurd ks.1 (by decide)), Int32.toInt_ofInt_of_le (by omega) (by omega), Int32.toInt_ofInt_of_le (by omega) (by omega), e]
    rw [hdiv]
    have key : ∀ (m k : Nat) (h2 : mmH), (k : Int) + m = (V (h 96 1)).2 → Fr (fun k i => k = 100 ∨ k = 99 ∨ (k = 96 ∧ (i = 4 ∨ i = 5))) h h2 → (∀ j, h2 100 j = h1 100 j) → h2 96 4 = (V (h 96 1)).1 → h2 96 5 = k →
        (∀ j : Nat, j < k → h2 99 j = pth (h 96 0) (eB h) (h 98) (h 96 2) V (j + 1) (h 96 1)) → qB tFA (d + 2) k_Walk_seek (h 0 0) (h 0 1) Q 2 [(3, 96), (1, pth (h 96 0) (eB h) (h 98) (h 96 2) V k (h 96 1)), (1, (k : Int))] [] h2 := by
      intro m
      induction m with
      | zero =>
        intro k h2 hk hF g100 g4 g5 g99
        have hlast := (pth_last hn hw hl1 hl2 hs1 hs2 (by rw [hV]; exact hf) (k := k) (by rw [hV]; omega)).mpr (by rw [hV]; omega)
        rw [hV] at hlast
        have hQ : Q 1 h2 := hy hf h2 ⟨hF, by rw [hV]; exact g4, by rw [g5]; omega, fun j hj => by rw [hV]; exact g99 j (by omega)⟩
        refine TA_Walk_seek_2 _ _ _ _ _ _ _ ⟨fun _ => hQ, fun _ => ⟨fun _ => hQ, fun c => absurd ?_ c⟩⟩
        rw [hF 96 2 (by omega)]
        exact hlast
      | succ m ih =>
        intro k h2 hk hF g100 g4 g5 g99
        obtain ⟨p1, p2, p3, p4⟩ := pth_ok hn hw hl1 hl2 hs1 hs2 (by rw [hV]; exact hf) k (by rw [hV]; omega)
        rw [hV] at p1 p2 p3 p4
        have hne : pth (h 96 0) (eB h) (h 98) (h 96 2) V k (h 96 1) ≠ h 96 2 := fun q => by
          have := (pth_last hn hw hl1 hl2 hs1 hs2 (by rw [hV]; exact hf) (k := k) (by rw [hV]; omega)).mp (by rw [hV]; exact q)
          rw [hV] at this
          omega
        refine TA_Walk_seek_2 _ _ _ _ _ _ _ ⟨fun c => absurd c (by omega), fun _ => ⟨fun c => absurd c (by rw [hF 96 2 (by omega)]; exact hne), fun _ => ?_⟩⟩
        have e0 := hF 96 0 (by omega)
        have e2 := hF 96 2 (by omega)
        have e98 : h2 98 = h 98 := funext fun j => hF 98 j (by omega)
        have eE : eB h2 = eB h := by
          funext a b
          unfold eB
          rw [hF 97 a (by omega), hF 96 3 (by omega)]
        have hR2 : rsI h2 V h2 := by
          refine ⟨Fr.rf, fun x x1 x2 => ?_, by rw [e0, eE, e98, e2]; exact hI⟩
          rw [g100, e0]
          exact hR.2.1 x x1 x2
        refine pA_nextFrom (h := h2) (V := V) (by rw [e0]; exact hn0) (by rw [e0]; exact hn) (by rw [e0, eE, e98]; exact hw) hR2 p1 (by rw [e0]; exact p2) p3 ?_
        rw [e0, eE, e98, e2]
        · skip
          refine mmD_of (by omega) ?_
          rw [mAdd_ok (a := (k : Int)) (by omega) (by omega), g5, mAdd_ok (by omega) (by omega)]
          have := ih (k + 1) (mmS (mmS h2 99 k (nx (h 96 0) (eB h) (h 98) (h 96 2) V (pth (h 96 0) (eB h) (h 98) (h 96 2) V k (h 96 1)))) 96 5 (k + 1)) (by omega) ((hF.put (by omega)).put (by omega)) (fun j => by rw [mmS_cell (by omega), mmS_cell (by omega)]; exact g100 j) (by rw [mmS_slot, if_neg (by omega), mmS_cell (by omega)]; exact g4) (by rw [mmS_self]; omega) (fun j hj => ?_)
          · rw [show (((k + 1 : Nat)) : Int) = (k : Int) + 1 by omega] at this
            exact this
          · rw [mmS_cell (by omega), mmS_slot]
            by_cases ej : j = k
            · subst ej; rw [if_pos rfl]; rfl
            · rw [if_neg (by omega)]; exact g99 j (by omega)
    have hF0 : Fr (fun k i => k = 100 ∨ k = 99 ∨ (k = 96 ∧ (i = 4 ∨ i = 5))) h (mmS (mmS h1 96 4 (V (h 96 1)).1) 96 5 0) := (F1.put (by omega)).put (by omega)
    exact key (V (h 96 1)).2.toNat 0 _ (by omega) hF0 (fun j => by rw [mmS_cell (by omega), mmS_cell (by omega)]) (by simp [mmS_slot]) (by simp [mmS_slot]) (fun j hj => absurd hj (by omega))
end SKA
section SKB
variable {d : Nat} {h : mmH} {Q : Int → mmH → Prop}
theorem pB_nextFrom {V : wV} {h' : mmH} {a : Int} (hn0 : 0 ≤ h 96 0) (hn : h 96 0 ≤ 10) (hw : wOk (h 96 0) (eB h) (h 98)) (hR : rsI h V h') (a1 : 0 ≤ a) (a2 : a < h 96 0) (hf : V a ≠ wFar)
    (hy : Q (nx (h 96 0) (eB h) (h 98) (h 96 2) V a) h') : qC tFB (d + 2) k_Walk_nextFrom [96, a] h' Q := by
  have c96 : ∀ j, h' 96 j = h 96 j := fun j => hR.1 96 j (by omega)
  have key : ∀ (m : Nat) (i : Int), i + m = h 96 0 → 0 ≤ i → Q (fstR (nxP (eB h) (h 98) V a) (h 96 2) m i) h' → qB tFB (d + 1) k_Walk_nextFrom (h' 0 0) (h' 0 1) Q 1 [(3, 96), (1, a), (1, i)] [] h' := by
    intro m
    induction m with
    | zero =>
      intro i hi i0 hq
      refine TB_Walk_nextFrom_1 _ _ _ _ _ _ _ ⟨fun _ => ?_, fun c => absurd (by rw [c96]; omega) c⟩
      rw [c96]; exact hq
    | succ m ih =>
      intro i hi i0 hq
      refine TB_Walk_nextFrom_1 _ _ _ _ _ _ _ ⟨fun c => absurd c (by rw [c96]; omega), fun _ => pB_restBy hn hw hR a1 a2 i0 (by omega) (mmD_of (by omega) ?_)⟩
      have va := wInv_fin hR.2.2 hn a1 a2 hf
      have hEa : h' 100 a = ky (V a) := by rw [hR.2.1 a a1 (by omega), if_pos ⟨a2, hf⟩]
      rw [mAdd_ok (a := i) (by omega) (by omega), hEa]
      unfold fstR at hq
      refine ⟨fun c => ih (i + 1) (by omega) (by omega) ?_, fun c => ?_⟩
      · rw [if_neg (fun q => c ?_)] at hq
        · exact hq
        · unfold nxP at q
          simp only [Bool.and_eq_true, decide_eq_true_eq] at q
          rw [if_pos ⟨q.1, q.2.1⟩]
          unfold ky
          omega
      · have c := Decidable.of_not_not c
        by_cases e : eB h a i = true ∧ V i ≠ wFar
        · rw [if_pos e] at c
          have vi := wInv_fin hR.2.2 hn i0 (by omega) e.2
          rw [if_pos] at hq
          · exact hq
          · unfold nxP
            unfold ky at c
            rw [e.1, decide_eq_true ⟨e.2, by omega, by omega⟩]
            rfl
        · rw [if_neg e] at c
          have := wInv_sm hR.2.2 hn a1 a2 hf
          omega
  exact qC_intro (TB_Walk_nextFrom_0 _ _ _ _ _ _ (key (h 96 0).toNat 0 (by omega) (Int.le_refl _) hy))
/-- the way is laid out -/
def wayIB (h : mmH) (st : Int) (h' : mmH) : Prop :=
  Fr (fun k i => k = 100 ∨ k = 99 ∨ (k = 96 ∧ (i = 4 ∨ i = 5))) h h' ∧ h' 96 4 = (dis (h 96 0) (eB h) (h 98) (h 96 2) (h 96 1)).1 ∧ h' 96 5 = st ∧
  (∀ k : Nat, (k : Int) < st → h' 99 k = pth (h 96 0) (eB h) (h 98) (h 96 2) (dis (h 96 0) (eB h) (h 98) (h 96 2)) (k + 1) (h 96 1))
theorem pB_seek (hn0 : 0 ≤ h 96 0) (hn : h 96 0 ≤ 10) (hw : wOk (h 96 0) (eB h) (h 98)) (hl1 : 0 ≤ h 96 2) (hl2 : h 96 2 < h 96 0) (hs1 : 0 ≤ h 96 1) (hs2 : h 96 1 < h 96 0)
    (hno : dis (h 96 0) (eB h) (h 98) (h 96 2) (h 96 1) = wFar → ∀ h', Fr (fun k i => k = 100 ∨ k = 99 ∨ (k = 96 ∧ (i = 4 ∨ i = 5))) h h' → Q 0 h')
    (hy : dis (h 96 0) (eB h) (h 98) (h 96 2) (h 96 1) ≠ wFar → ∀ h', wayIB h (dis (h 96 0) (eB h) (h 98) (h 96 2) (h 96 1)).2 h' → Q 1 h') : qC tFB (d + 3) k_Walk_seek [96] h Q := by
  refine qC_intro (TB_Walk_seek_0 _ _ _ _ _ (pB_measureRest hn0 hn hw hl1 hl2 (fun h1 hR => ?_)))
  have hI := dis_inv hn hw hl1 hl2
  have c96 : ∀ j, h1 96 j = h 96 j := fun j => hR.1 96 j (by omega)
  have hE := hR.2.1 (h 96 1) hs1 (by omega)
  have F1 : Fr (fun k i => k = 100 ∨ k = 99 ∨ (k = 96 ∧ (i = 4 ∨ i = 5))) h h1 := hR.1.mono (fun _ _ q => Or.inl q)
  simp only [mmD_iff]
  rw [c96, hE]
  generalize hV : dis (h 96 0) (eB h) (h 98) (h 96 2) = V at *
  by_cases hf : V (h 96 1) = wFar
  · rw [if_neg (fun q => q.2 hf)]
    exact ⟨by omega, fun c => absurd c (by omega), fun _ => hno hf h1 F1⟩
  · rw [if_pos ⟨hs2, hf⟩]
    have vs := wInv_fin hI hn hs1 hs2 hf
    have ks := wInv_sm hI hn hs1 hs2 hf
    refine ⟨by omega, fun _ => ⟨by omega, ?_⟩, fun c => absurd (by omega) c⟩
    have hdiv : mDiv (ky (V (h 96 1))) 16 = (V (h 96 1)).1 := by
      have e : (ky (V (h 96 1))).tdiv 16 = (V (h 96 1)).1 := by
        rw [Int.tdiv_eq_ediv_of_nonneg ks.1]
        unfold ky
        omega
      rw [mDiv_def, Int32.toInt_div_of_ne_left _ _ (fun q => by
        have := congrArg Int32.toInt q
        rw [Int32.toInt_ofInt_of_le (by omega) (by omega)] at this
        rw [this] at ks
        exact absurd ks.1 (by decide)), Int32.toInt_ofInt_of_le (by omega) (by omega), Int32.toInt_ofInt_of_le (by omega) (by omega), e]
    rw [hdiv]
    have key : ∀ (m k : Nat) (h2 : mmH), (k : Int) + m = (V (h 96 1)).2 → Fr (fun k i => k = 100 ∨ k = 99 ∨ (k = 96 ∧ (i = 4 ∨ i = 5))) h h2 → (∀ j, h2 100 j = h1 100 j) → h2 96 4 = (V (h 96 1)).1 → h2 96 5 = k →
        (∀ j : Nat, j < k → h2 99 j = pth (h 96 0) (eB h) (h 98) (h 96 2) V (j + 1) (h 96 1)) → qB tFB (d + 2) k_Walk_seek (h 0 0) (h 0 1) Q 2 [(3, 96), (1, pth (h 96 0) (eB h) (h 98) (h 96 2) V k (h 96 1)), (1, (k : Int))] [] h2 := by
      intro m
      induction m with
      | zero =>
        intro k h2 hk hF g100 g4 g5 g99
        have hlast := (pth_last hn hw hl1 hl2 hs1 hs2 (by rw [hV]; exact hf) (k := k) (by rw [hV]; omega)).mpr (by rw [hV]; omega)
        rw [hV] at hlast
        have hQ : Q 1 h2 := hy hf h2 ⟨hF, by rw [hV]; exact g4, by rw [g5]; omega, fun j hj => by rw [hV]; exact g99 j (by omega)⟩
        refine TB_Walk_seek_2 _ _ _ _ _ _ _ ⟨fun _ => hQ, fun _ => ⟨fun _ => hQ, fun c => absurd ?_ c⟩⟩
        rw [hF 96 2 (by omega)]
        exact hlast
      | succ m ih =>
        intro k h2 hk hF g100 g4 g5 g99
        obtain ⟨p1, p2, p3, p4⟩ := pth_ok hn hw hl1 hl2 hs1 hs2 (by rw [hV]; exact hf) k (by rw [hV]; omega)
        rw [hV] at p1 p2 p3 p4
        have hne : pth (h 96 0) (eB h) (h 98) (h 96 2) V k (h 96 1) ≠ h 96 2 := fun q => by
          have := (pth_last hn hw hl1 hl2 hs1 hs2 (by rw [hV]; exact hf) (k := k) (by rw [hV]; omega)).mp (by rw [hV]; exact q)
          rw [hV] at this
          omega
        refine TB_Walk_seek_2 _ _ _ _ _ _ _ ⟨fun c => absurd c (by omega), fun _ => ⟨fun c => absurd c (by rw [hF 96 2 (by omega)]; exact hne), fun _ => ?_⟩⟩
        have e0 := hF 96 0 (by omega)
        have e2 := hF 96 2 (by omega)
        have e98 : h2 98 = h 98 := funext fun j => hF 98 j (by omega)
        have eE : eB h2 = eB h := by
          funext a b
          unfold eB
          rw [hF 97 a (by omega), hF 96 3 (by omega)]
        have hR2 : rsI h2 V h2 := by
          refine ⟨Fr.rf, fun x x1 x2 => ?_, by rw [e0, eE, e98, e2]; exact hI⟩
          rw [g100, e0]
          exact hR.2.1 x x1 x2
        refine pB_nextFrom (h := h2) (V := V) (by rw [e0]; exact hn0) (by rw [e0]; exact hn) (by rw [e0, eE, e98]; exact hw) hR2 p1 (by rw [e0]; exact p2) p3 ?_
        rw [e0, eE, e98, e2]
        · skip
          refine mmD_of (by omega) ?_
          rw [mAdd_ok (a := (k : Int)) (by omega) (by omega), g5, mAdd_ok (by omega) (by omega)]
          have := ih (k + 1) (mmS (mmS h2 99 k (nx (h 96 0) (eB h) (h 98) (h 96 2) V (pth (h 96 0) (eB h) (h 98) (h 96 2) V k (h 96 1)))) 96 5 (k + 1)) (by omega) ((hF.put (by omega)).put (by omega)) (fun j => by rw [mmS_cell (by omega), mmS_cell (by omega)]; exact g100 j) (by rw [mmS_slot, if_neg (by omega), mmS_cell (by omega)]; exact g4) (by rw [mmS_self]; omega) (fun j hj => ?_)
          · rw [show (((k + 1 : Nat)) : Int) = (k : Int) + 1 by omega] at this
            exact this
          · rw [mmS_cell (by omega), mmS_slot]
            by_cases ej : j = k
            · subst ej; rw [if_pos rfl]; rfl
            · rw [if_neg (by omega)]; exact g99 j (by omega)
    have hF0 : Fr (fun k i => k = 100 ∨ k = 99 ∨ (k = 96 ∧ (i = 4 ∨ i = 5))) h (mmS (mmS h1 96 4 (V (h 96 1)).1) 96 5 0) := (F1.put (by omega)).put (by omega)
    exact key (V (h 96 1)).2.toNat 0 _ (by omega) hF0 (fun j => by rw [mmS_cell (by omega), mmS_cell (by omega)]) (by simp [mmS_slot]) (by simp [mmS_slot]) (fun j hj => absurd hj (by omega))
end SKB
