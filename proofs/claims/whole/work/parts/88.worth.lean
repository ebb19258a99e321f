/-! ===== mm: worth, broke ===== -/
theorem Wk_tr {u p : Int} {g g' h1 : mmH} (f : Fr (Sw3 u) g g') (hu : u = 5 ∨ u = 46) (n1 : 0 ≤ g u 1 ∧ g u 1 ≤ 10) (p1 : 0 ≤ p) (p2 : p < 6) (hW : Wk u g' p h1) : Wk u g p h1 := by
  have e1 : g' u 1 = g u 1 := f u 1 (by unfold Sw3 Sct; omega)
  have e86 : g' 86 1 = g 86 1 := f 86 1 (by unfold Sw3 Sct; omega)
  have e88 : g' 88 p = g 88 p := f 88 p (by unfold Sw3 Sct; omega)
  have e89 : g' 89 p = g 89 p := f 89 p (by unfold Sw3 Sct; omega)
  have e87 : ∀ l, g' 87 l = g 87 l := fun l => f 87 l (by unfold Sw3 Sct; omega)
  have ht : ∀ l t, 0 ≤ l → l < g u 1 → tollC u g' p l t = tollC u g p l t := fun l t l1 l2 => tollC_eq (fun k i q => f k i (by unfold Sw3 Sct; omega)) p1 p2 l1 (by omega)
  obtain ⟨a, b, c, e, el⟩ := hW
  rw [e1] at a e el
  refine ⟨a, by rw [b, e88], by rw [c, e89], ?_, fun l l1 l2 => ?_⟩
  · rw [e]
    refine setOf_congr (fun l l1 l2 => ?_)
    unfold opS
    rw [e87, ht l _ l1 l2]
  · obtain ⟨x1, x2⟩ := el l l1 l2
    rw [x1, x2, e87, ht l _ l1 l2, e86]
    exact ⟨rfl, setOf_congr (fun b b1 b2 => nearS_eq (fun k i q => f k i (by unfold Sw3 Sct; omega)) p1 p2 l1 (by omega) b1 (by omega))⟩
noncomputable def coinsW (u : Int) (g : mmH) (c1 c2 p : Int) : Int := if dG u g p 0 0 31 c1 c2 (g 88 p) = wFar then 1000 else (dG u g p 0 0 31 c1 c2 (g 88 p)).1
noncomputable def sumW (u : Int) (g : mmH) (c1 c2 : Int) : Nat → Int
  | 0 => 0
  | n + 1 => sumW u g c1 c2 n + coinsW u g c1 c2 (n : Int)
noncomputable def worthV (u : Int) (g : mmH) (a b : Int) : Int := sumW u g a b (g u 3).toNat - sumW u g (-1) (-1) (g u 3).toNat
theorem coinsW_ok {u c1 c2 p : Int} {g h : mmH} (hT : Tn u 1 g h) (hs : 0 ≤ g 88 p ∧ g 88 p < g u 1) (hg : 0 ≤ g 89 p ∧ g 89 p < g u 1) : 0 ≤ coinsW u g c1 c2 p ∧ coinsW u g c1 c2 p ≤ 8991 := by
  unfold coinsW
  split
  · omega
  · next q =>
    have n1 := hT.1.2.1.2.1
    have := wInv_fin (dis_inv n1.2 (wOk_G u g p 0 0 31 c1 c2) hg.1 hg.2) n1.2 hs.1 hs.2 q
    unfold dG
    omega
theorem sumW_ok {u c1 c2 : Int} {g h : mmH} (hC : Cp u g h) : ∀ n : Nat, (n : Int) ≤ g u 3 → 0 ≤ sumW u g c1 c2 n ∧ sumW u g c1 c2 n ≤ 8991 * n
  | 0, _ => ⟨Int.le_refl _, Int.le_refl _⟩
  | n + 1, hn => by
    have ih := sumW_ok (c1 := c1) (c2 := c2) hC n (by omega)
    obtain ⟨hs, hg, -, -, -⟩ := Nw_at hC.N (p := (n : Int)) (by omega) (by omega)
    have := coinsW_ok (c1 := c1) (c2 := c2) hC.T hs hg
    unfold sumW
    omega
theorem eG_all {u p c1 c2 a b : Int} {g h : mmH} (hT : Tn u 1 g h) (b1 : 0 ≤ b) (b2 : b < g u 1) : eG u g p 0 0 31 c1 c2 a b = (!decide ((a = c1 ∧ b = c2) ∨ (a = c2 ∧ b = c1)) && eP u g p a b) := by
  have hob := (hT.2.1 b b1 b2).1
  unfold eG eP
  rw [cnS_all ⟨hob.2.1, by have := hT.1.2.1.1; omega⟩]
  cases nearS u g (g 86 1) p a b <;> cases opS u g p b <;> simp
theorem wG_all {u p b : Int} {g : mmH} : wG u g p 0 0 b = wP u g p b := by
  unfold wG wP tlS
  rw [tb_zero, if_neg (by decide), if_neg (by simp)]
/-- does his way come to a lot? -/
def cmP (u : Int) (g : mmH) (p l : Int) : Prop := dP u g p (g 88 p) ≠ wFar ∧ ∃ k : Nat, (k : Int) < (dP u g p (g 88 p)).2 ∧ pP u g p (k + 1) = l
theorem cmP_tiles {u p l : Int} {g h : mmH} (hC : Cp u g h) (p1 : 0 ≤ p) (p2 : p < g u 3) (hc : cmP u g p l) : 0 < g 87 l := by
  obtain ⟨hf, k, hk, rfl⟩ := hc
  have n1 := hC.T.1.2.1.2.1
  obtain ⟨hs, hg, -, -, -⟩ := Nw_at hC.N p1 p2
  obtain ⟨q1, q2, q3, q4⟩ := pth_ok n1.2 (wOk_P u g p) hg.1 hg.2 hs.1 hs.2 hf k (by show (k : Int) ≤ (dP u g p (g 88 p)).2; omega)
  have hne : pth (g u 1) (eP u g p) (wP u g p) (g 89 p) (dis (g u 1) (eP u g p) (wP u g p) (g 89 p)) k (g 88 p) ≠ g 89 p := fun q => by
    have := (pth_last n1.2 (wOk_P u g p) hg.1 hg.2 hs.1 hs.2 hf (k := k) (by show (k : Int) ≤ (dP u g p (g 88 p)).2; omega)).mp q
    have e2 : (dis (g u 1) (eP u g p) (wP u g p) (g 89 p) (g 88 p)).2 = (dP u g p (g 88 p)).2 := rfl
    omega
  exact (eP_iff.mp (nx_ok n1.2 (wOk_P u g p) hg.1 hg.2 q1 q2 hne q3).2.2.1).2.1
noncomputable def brkP (u : Int) (g : mmH) (l hl p : Int) : Bool := @decide (g (u + 16 + p) 3 = hl ∧ g u 4 * g 87 l < g (u + 16 + p) 0 ∧ cmP u g p l) (Classical.propDecidable _)
theorem brkP_t {u : Int} {g : mmH} {l hl p : Int} (h : g (u + 16 + p) 3 = hl ∧ g u 4 * g 87 l < g (u + 16 + p) 0 ∧ cmP u g p l) : brkP u g l hl p = true := @decide_eq_true _ (Classical.propDecidable _) h
theorem brkP_f {u : Int} {g : mmH} {l hl p : Int} (h : ¬ (g (u + 16 + p) 3 = hl ∧ g u 4 * g 87 l < g (u + 16 + p) 0 ∧ cmP u g p l)) : brkP u g l hl p = false := @decide_eq_false _ (Classical.propDecidable _) h
noncomputable def brkS (u : Int) (g : mmH) (l hl : Int) : Int := setOf (g u 3) (brkP u g l hl)
noncomputable def brokeV (u : Int) (g : mmH) (l hl k : Int) : Int :=
  if ¬ ((0 ≤ l ∧ l < g u 1) ∧ (0 ≤ hl ∧ hl ≤ 9)) then -1 else if k = -1 then pc (brkS u g l hl) else if k = 20 then brkS u g l hl else if 0 ≤ k ∧ k < g u 3 then (if tb (brkS u g l hl) k = true then mDiv 1000 (pc (brkS u g l hl)) else 0) else -1
theorem pc_pos {s k : Int} (s0 : 0 ≤ s) (s1 : s < 1024) (h : tb s k = true) : 0 < pc s := by
  have hne : s.toNat ≠ 0 := fun q => by
    have : s = 0 := by omega
    rw [this, tb_zero] at h; cases h
  have := pcN_pos ⟨s.toNat, by omega⟩ hne
  unfold pc
  simp only [] at this
  omega
section WOA
variable {d : Nat} {h m0 : mmH} {Q : Int → mmH → Prop}
theorem pA_lookG {g : mmH} {p : Int} (hC : Cp 5 g m0) (f0 : Fr (Sw3 5) g h) (p1 : 0 ≤ p) (p2 : p < g 5 3) (hy : ∀ h', Fr (Sw3 5) g h' → Wk 5 g p h' → Q 0 h') : qC tFA (d + 5) k_Walk_look [96, 5, 86, p] h Q := by
  have n1 := hC.T.1.2.1.2.1
  have n3 := hC.T.1.2.1.2.2.1
  have e : ∀ k i, ¬ Sw3 5 k i → h k i = g k i := f0
  refine pA_look (m0 := m0) (Tn_frC (v := 46) (by decide) (f0.mono (fun _ _ q => Sw3_ScC (by decide) q)) hC.T) (Nw_eq (e _ _ (by unfold Sw3 Sct; omega)) (e _ _ (by unfold Sw3 Sct; omega)) (e _ _ (by unfold Sw3 Sct; omega)) rfl (fun k k1 k2 => funext fun i => e k i (by unfold Sw3 Sct; omega)) hC.N) p1 (by rw [e 5 3 (by unfold Sw3 Sct; omega)]; exact p2) (fun h' f' hW => hy h' (f0.tr (f'.mono (fun k i q => ?_))) (Wk_tr f0 (by decide) n1 p1 (by omega) hW))
  rcases q with q | q
  · exact Or.inl q
  · exact Or.inr (by omega)
/-- seeking where the steps are known -/
theorem pA_seekG {n s t : Int} {E : Int → Int → Bool} {w : Int → Int} (e0 : h 96 0 = n) (e1 : h 96 1 = s) (e2 : h 96 2 = t) (n1 : 0 ≤ n ∧ n ≤ 10) (hs : 0 ≤ s ∧ s < n) (ht : 0 ≤ t ∧ t < n) (hw : wOk n E w) (hE : ∀ a b, 0 ≤ a → a < n → 0 ≤ b → b < n → E a b = eB h a b) (hww : ∀ b, 0 ≤ b → b < n → w b = h 98 b)
    (hy : ∀ h', Fr (fun k i => k = 100 ∨ k = 99 ∨ (k = 96 ∧ (i = 4 ∨ i = 5))) h h' → (dis n E w t s = wFar → Q 0 h') ∧ (dis n E w t s ≠ wFar → h' 96 4 = (dis n E w t s).1 → h' 96 5 = (dis n E w t s).2 → (∀ k : Nat, (k : Int) < (dis n E w t s).2 → h' 99 k = pth n E w t (dis n E w t) (k + 1) s) → Q 1 h')) : qC tFA (d + 3) k_Walk_seek [96] h Q := by
  subst e0
  subst e1
  subst e2
  have hd : dis (h 96 0) E w (h 96 2) = dis (h 96 0) (eB h) (h 98) (h 96 2) := dis_congr hE hww
  refine pA_seek n1.1 n1.2 (wOk_congr hE hww hw) ht.1 ht.2 hs.1 hs.2 (fun hf h' f' => (hy h' f').1 (by rw [hd]; exact hf)) (fun hf h' hW => (hy h' hW.1).2 (by rw [hd]; exact hf) (by rw [hd]; exact hW.2.1) (by rw [hd]; exact hW.2.2.1) (fun k hk => ?_))
  rw [hd] at hk
  rw [hW.2.2.2 k hk]
  exact (pth_congr n1.2 hw ht.1 ht.2 hs.1 hs.2 (by rw [hd]; exact hf) hE hww (k + 1) (by rw [hd]; omega)).symm
theorem aA_worth {a b : Int} (hC : Cp 5 h m0) (hy : ∀ x h', Fr (Sw3 5) h h' → x = (if ((0 ≤ a ∧ a < h 5 1) ∧ (0 ≤ b ∧ b < h 5 1)) ∧ h (28 + a) b ≠ -1 then worthV 5 h a b else -1000000000) → Q x h') : qC tFA (d + 6) k_c_worth [1, a, b] h Q := by
  have n1 := hC.T.1.2.1.2.1
  have n3 := hC.T.1.2.1.2.2.1
  refine qC_intro (TA_c_worth_0 _ _ _ _ _ _ _ (pA5_wideOf n1.2 (fun x hx => ⟨fun c => ?_, fun c => hy _ _ Fr.rf ?_⟩)))
  · rcases hx with ⟨⟨a1, a2⟩, ⟨b1, b2⟩, hx⟩ | ⟨hx, -⟩
    · have hy2 : ∀ x h', Fr (Sw3 5) h h' → x = worthV 5 h a b → Q x h' := fun x h' f q => hy x h' f (by rw [if_pos ⟨⟨⟨a1, a2⟩, b1, b2⟩, by omega⟩]; exact q)
      have key : ∀ (m k : Nat) (v : Int) (w5 w6 : mmV) (h1 : mmH), (k : Int) + m = h 5 3 → Fr (Sw3 5) h h1 → v = sumW 5 h a b k - sumW 5 h (-1) (-1) k → qB tFA (d + 5) k_c_worth (h 0 0) (h 0 1) Q 2 [(3, 1), (1, a), (1, b), (1, v), (1, (k : Int)), w5, w6] [] h1 := by
        intro m
        induction m with
        | zero =>
          intro k v w5 w6 h1 hk f1 hv
          refine TA_c_worth_2 _ _ _ _ _ _ _ _ _ _ _ ⟨fun _ => hy2 _ h1 f1 ?_, fun c => absurd (by rw [f1 5 3 (by unfold Sw3 Sct; omega)]; omega) c⟩
          unfold worthV
          rw [show (h 5 3).toNat = k by omega]
          exact hv
        | succ m ih =>
          intro k v w5 w6 h1 hk f1 hv
          have p1 : 0 ≤ (k : Int) := by omega
          have p2 : (k : Int) < h 5 3 := by omega
          obtain ⟨hs, hg, -, -, -⟩ := Nw_at hC.N p1 p2
          have s1 := sumW_ok (c1 := a) (c2 := b) hC k (by omega)
          have s2 := sumW_ok (c1 := -1) (c2 := -1) hC k (by omega)
          have w1 := coinsW_ok (c1 := a) (c2 := b) hC.T hs hg
          have w2 := coinsW_ok (c1 := -1) (c2 := -1) hC.T hs hg
          refine TA_c_worth_2 _ _ _ _ _ _ _ _ _ _ _ ⟨fun c => absurd c (by rw [f1 5 3 (by unfold Sw3 Sct; omega)]; omega), fun _ => pA_lookG hC f1 p1 p2 (fun h2 f2 hW => ?_)⟩
          have b4 : ∀ (s0 : Int) (h3 : mmH), Fr (fun k i => k = 100 ∨ k = 99 ∨ (k = 96 ∧ (i = 4 ∨ i = 5))) h2 h3 → s0 = coinsW 5 h (-1) (-1) k → qB tFA (d + 5) k_c_worth (h 0 0) (h 0 1) Q 4 [(3, 1), (1, a), (1, b), (1, v), (1, (k : Int)), w5, w6] [(1, s0)] h3 := by
            intro s0 h3 f3 hs0
            refine TA_c_worth_4 _ _ _ _ _ _ _ _ _ _ _ _ (qC_intro (TA_Walk_cut_0 _ _ _ _ _ _ _ (mmD_of (by omega) (mmD_of (by omega) (mmD_of (by omega) (mmD_of (by omega) ?_))))))
            generalize hH : mmS (mmS h3 97 a (mAnd (h3 97 a) (mXor (mShl 1 b) (-1)))) 97 b (mAnd ((mmS h3 97 a (mAnd (h3 97 a) (mXor (mShl 1 b) (-1)))) 97 b) (mXor (mShl 1 a) (-1))) = h4
            have g96 : ∀ j, j ≠ 4 → j ≠ 5 → h4 96 j = h2 96 j := fun j j1 j2 => by rw [← hH, mmS_cell (by omega), mmS_cell (by omega), f3 96 j (by omega)]
            have g98 : ∀ j, h4 98 j = h2 98 j := fun j => by rw [← hH, mmS_cell (by omega), mmS_cell (by omega), f3 98 j (by omega)]
            have g97 : ∀ x y, 0 ≤ y → y < 32 → tb (h4 97 x) y = (tb (h2 97 x) y && !decide ((x = a ∧ y = b) ∨ (x = b ∧ y = a))) := by
              intro x y y1 y2
              have t0 : ∀ z, h3 97 z = h2 97 z := fun z => f3 97 z (by omega)
              rw [← hH, mmS_slot, mmS_slot, mmS_slot, t0, t0, t0]
              by_cases xb : x = b
              · by_cases xa : x = a
                · rw [if_pos xb, if_pos (by omega), tb_and, tb_and, tb_not y1 y2, tb_not y1 y2, tb_shl1 (by omega) (by omega) y1 y2, tb_shl1 (by omega) (by omega) y1 y2, ← xa, ← xb]
                  by_cases yy : y = x <;> simp [yy]
                · rw [if_pos xb, if_neg (by omega), tb_and, tb_not y1 y2, tb_shl1 (by omega) (by omega) y1 y2, ← xb]
                  by_cases yy : y = a <;> simp [yy, xa]
              · by_cases xa : x = a
                · rw [if_neg xb, if_pos xa, tb_and, tb_not y1 y2, tb_shl1 (by omega) (by omega) y1 y2, ← xa]
                  by_cases yy : y = b <;> simp [yy, xb]
                · rw [if_neg xb, if_neg xa]
                  simp [xa, xb]
            have f4 : Fr (Sw3 5) h h4 := by
              rw [← hH]
              exact ((f2.tr (f3.mono (fun k i q => Or.inr (by omega)))).put (Or.inr (by omega))).put (Or.inr (by omega))
            refine pA_seekG (n := h 5 1) (s := h 88 k) (t := h 89 k) (E := eG 5 h k 0 0 31 a b) (w := wG 5 h k 0 0) (by rw [g96 0 (by omega) (by omega)]; exact hW.1) (by rw [g96 1 (by omega) (by omega)]; exact hW.2.1) (by rw [g96 2 (by omega) (by omega)]; exact hW.2.2.1) n1 hs hg (wOk_G 5 h k 0 0 31 a b) (fun x y x1 x2 y1 y2 => ?_) (fun y y1 y2 => ?_) (fun h5 f5 => ?_)
            · rw [eG_all hC.T y1 y2, ← eB_Wk n1 hW x1 x2 y1 y2]
              unfold eB
              rw [g97 x y y1 (by omega), g96 3 (by omega) (by omega)]
              cases tb (h2 97 x) y <;> cases tb (h2 96 3) y <;> simp
            · rw [wG_all, g98, (hW.2.2.2.2 y y1 y2).1]; rfl
            · have F5 : Fr (Sw3 5) h h5 := f4.tr (f5.mono (fun k i q => Or.inr (by omega)))
              have nxt : ∀ (x : Int) (w w' : mmV), x = coinsW 5 h a b k → qB tFA (d + 5) k_c_worth (h 0 0) (h 0 1) Q 2 [(3, 1), (1, a), (1, b), (1, mAdd v (mSub x s0)), (1, mAdd (k : Int) 1), w, w'] [] h5 := by
                intro x w w' hx
                rw [mSub_ok (by omega) (by omega), mAdd_ok (a := v) (by omega) (by omega), mAdd_ok (a := (k : Int)) (by omega) (by omega)]
                have := ih (k + 1) (v + (x - s0)) w w' h5 (by omega) F5 (by unfold sumW; omega)
                rw [show (((k + 1 : Nat)) : Int) = (k : Int) + 1 by omega] at this
                exact this
              refine ⟨fun hf => ⟨fun _ => nxt _ _ _ ?_, fun c => absurd rfl c⟩, fun hf x4 x5 _ => ⟨fun c => absurd c (by omega), fun _ => nxt _ _ _ ?_⟩⟩
              · unfold coinsW dG; rw [if_pos hf]
              · unfold coinsW dG; rw [if_neg hf]; exact x4
          refine pA_seekG (n := h 5 1) (s := h 88 k) (t := h 89 k) (E := eG 5 h k 0 0 31 (-1) (-1)) (w := wG 5 h k 0 0) hW.1 hW.2.1 hW.2.2.1 n1 hs hg (wOk_G 5 h k 0 0 31 (-1) (-1)) (fun x y x1 x2 y1 y2 => ?_) (fun y y1 y2 => ?_) (fun h3 f3 => ⟨fun hf => ⟨fun _ => b4 _ h3 f3 ?_, fun c => absurd rfl c⟩, fun hf x4 x5 _ => ⟨fun c => absurd c (by omega), fun _ => b4 _ h3 f3 ?_⟩⟩)
          · rw [eG_all hC.T y1 y2, eB_Wk n1 hW x1 x2 y1 y2, decide_eq_false (by omega)]; simp
          · rw [wG_all, (hW.2.2.2.2 y y1 y2).1]; rfl
          · unfold coinsW dG; rw [if_pos hf]
          · unfold coinsW dG; rw [if_neg hf]; exact x4
      have := key (h 5 3).toNat 0 0 (0, 0) (0, 0) h (by omega) Fr.rf rfl
      exact this
    · exact absurd hx c
  · rw [if_neg]
    rintro ⟨⟨q1, q2⟩, q3⟩
    rcases hx with ⟨-, -, hx⟩ | ⟨-, hx⟩
    · exact c (by omega)
    · exact hx ⟨q1, q2⟩
end WOA
section WOB
variable {d : Nat} {h m0 : mmH} {Q : Int → mmH → Prop}
theorem pB_lookG {g : mmH} {p : Int} (hC : Cp 46 g m0) (f0 : Fr (Sw3 46) g h) (p1 : 0 ≤ p) (p2 : p < g 46 3) (hy : ∀ h', Fr (Sw3 46) g h' → Wk 46 g p h' → Q 0 h') : qC tFB (d + 5) k_Walk_look [96, 46, 86, p] h Q := by
  have n1 := hC.T.1.2.1.2.1
  have n3 := hC.T.1.2.1.2.2.1
  have e : ∀ k i, ¬ Sw3 46 k i → h k i = g k i := f0
  refine pB_look (m0 := m0) (Tn_frC (v := 5) (by decide) (f0.mono (fun _ _ q => Sw3_ScC (by decide) q)) hC.T) (Nw_eq (e _ _ (by unfold Sw3 Sct; omega)) (e _ _ (by unfold Sw3 Sct; omega)) (e _ _ (by unfold Sw3 Sct; omega)) rfl (fun k k1 k2 => funext fun i => e k i (by unfold Sw3 Sct; omega)) hC.N) p1 (by rw [e 46 3 (by unfold Sw3 Sct; omega)]; exact p2) (fun h' f' hW => hy h' (f0.tr (f'.mono (fun k i q => ?_))) (Wk_tr f0 (by decide) n1 p1 (by omega) hW))
  rcases q with q | q
  · exact Or.inl q
  · exact Or.inr (by omega)
/-- seeking where the steps are known -/
theorem pB_seekG {n s t : Int} {E : Int → Int → Bool} {w : Int → Int} (e0 : h 96 0 = n) (e1 : h 96 1 = s) (e2 : h 96 2 = t) (n1 : 0 ≤ n ∧ n ≤ 10) (hs : 0 ≤ s ∧ s < n) (ht : 0 ≤ t ∧ t < n) (hw : wOk n E w) (hE : ∀ a b, 0 ≤ a → a < n → 0 ≤ b → b < n → E a b = eB h a b) (hww : ∀ b, 0 ≤ b → b < n → w b = h 98 b)
    (hy : ∀ h', Fr (fun k i => k = 100 ∨ k = 99 ∨ (k = 96 ∧ (i = 4 ∨ i = 5))) h h' → (dis n E w t s = wFar → Q 0 h') ∧ (dis n E w t s ≠ wFar → h' 96 4 = (dis n E w t s).1 → h' 96 5 = (dis n E w t s).2 → (∀ k : Nat, (k : Int) < (dis n E w t s).2 → h' 99 k = pth n E w t (dis n E w t) (k + 1) s) → Q 1 h')) : qC tFB (d + 3) k_Walk_seek [96] h Q := by
  subst e0
  subst e1
  subst e2
  have hd : dis (h 96 0) E w (h 96 2) = dis (h 96 0) (eB h) (h 98) (h 96 2) := dis_congr hE hww
  refine pB_seek n1.1 n1.2 (wOk_congr hE hww hw) ht.1 ht.2 hs.1 hs.2 (fun hf h' f' => (hy h' f').1 (by rw [hd]; exact hf)) (fun hf h' hW => (hy h' hW.1).2 (by rw [hd]; exact hf) (by rw [hd]; exact hW.2.1) (by rw [hd]; exact hW.2.2.1) (fun k hk => ?_))
  rw [hd] at hk
  rw [hW.2.2.2 k hk]
  exact (pth_congr n1.2 hw ht.1 ht.2 hs.1 hs.2 (by rw [hd]; exact hf) hE hww (k + 1) (by rw [hd]; omega)).symm
theorem aB_worth {a b : Int} (hC : Cp 46 h m0) (hy : ∀ x h', Fr (Sw3 46) h h' → x = (if ((0 ≤ a ∧ a < h 46 1) ∧ (0 ≤ b ∧ b < h 46 1)) ∧ h (69 + a) b ≠ -1 then worthV 46 h a b else -1000000000) → Q x h') : qC tFB (d + 6) k_c_worth [1, a, b] h Q := by
  have n1 := hC.T.1.2.1.2.1
  have n3 := hC.T.1.2.1.2.2.1
  refine qC_intro (TB_c_worth_0 _ _ _ _ _ _ _ (pB46_wideOf n1.2 (fun x hx => ⟨fun c => ?_, fun c => hy _ _ Fr.rf ?_⟩)))
  · rcases hx with ⟨⟨a1, a2⟩, ⟨b1, b2⟩, hx⟩ | ⟨hx, -⟩
    · have hy2 : ∀ x h', Fr (Sw3 46) h h' → x = worthV 46 h a b → Q x h' := fun x h' f q => hy x h' f (by rw [if_pos ⟨⟨⟨a1, a2⟩, b1, b2⟩, by omega⟩]; exact q)
      have key : ∀ (m k : Nat) (v : Int) (w5 w6 : mmV) (h1 : mmH), (k : Int) + m = h 46 3 → Fr (Sw3 46) h h1 → v = sumW 46 h a b k - sumW 46 h (-1) (-1) k → qB tFB (d + 5) k_c_worth (h 0 0) (h 0 1) Q 2 [(3, 1), (1, a), (1, b), (1, v), (1, (k : Int)), w5, w6] [] h1 := by
        intro m
        induction m with
        | zero =>
          intro k v w5 w6 h1 hk f1 hv
          refine TB_c_worth_2 _ _ _ _ _ _ _ _ _ _ _ ⟨fun _ => hy2 _ h1 f1 ?_, fun c => absurd (by rw [f1 46 3 (by unfold Sw3 Sct; omega)]; omega) c⟩
          unfold worthV
          rw [show (h 46 3).toNat = k by omega]
          exact hv
        | succ m ih =>
          intro k v w5 w6 h1 hk f1 hv
          have p1 : 0 ≤ (k : Int) := by omega
          have p2 : (k : Int) < h 46 3 := by omega
          obtain ⟨hs, hg, -, -, -⟩ := Nw_at hC.N p1 p2
          have s1 := sumW_ok (c1 := a) (c2 := b) hC k (by omega)
          have s2 := sumW_ok (c1 := -1) (c2 := -1) hC k (by omega)
          have w1 := coinsW_ok (c1 := a) (c2 := b) hC.T hs hg
          have w2 := coinsW_ok (c1 := -1) (c2 := -1) hC.T hs hg
          refine TB_c_worth_2 _ _ _ _ _ _ _ _ _ _ _ ⟨fun c => absurd c (by rw [f1 46 3 (by unfold Sw3 Sct; omega)]; omega), fun _ => pB_lookG hC f1 p1 p2 (fun h2 f2 hW => ?_)⟩
          have b4 : ∀ (s0 : Int) (h3 : mmH), Fr (fun k i => k = 100 ∨ k = 99 ∨ (k = 96 ∧ (i = 4 ∨ i = 5))) h2 h3 → s0 = coinsW 46 h (-1) (-1) k → qB tFB (d + 5) k_c_worth (h 0 0) (h 0 1) Q 4 [(3, 1), (1, a), (1, b), (1, v), (1, (k : Int)), w5, w6] [(1, s0)] h3 := by
            intro s0 h3 f3 hs0
            refine TB_c_worth_4 _ _ _ _ _ _ _ _ _ _ _ _ (qC_intro (TB_Walk_cut_0 _ _ _ _ _ _ _ (mmD_of (by omega) (mmD_of (by omega) (mmD_of (by omega) (mmD_of (by omega) ?_))))))
            generalize hH : mmS (mmS h3 97 a (mAnd (h3 97 a) (mXor (mShl 1 b) (-1)))) 97 b (mAnd ((mmS h3 97 a (mAnd (h3 97 a) (mXor (mShl 1 b) (-1)))) 97 b) (mXor (mShl 1 a) (-1))) = h4
            have g96 : ∀ j, j ≠ 4 → j ≠ 5 → h4 96 j = h2 96 j := fun j j1 j2 => by rw [← hH, mmS_cell (by omega), mmS_cell (by omega), f3 96 j (by omega)]
            have g98 : ∀ j, h4 98 j = h2 98 j := fun j => by rw [← hH, mmS_cell (by omega), mmS_cell (by omega), f3 98 j (by omega)]
            have g97 : ∀ x y, 0 ≤ y → y < 32 → tb (h4 97 x) y = (tb (h2 97 x) y && !decide ((x = a ∧ y = b) ∨ (x = b ∧ y = a))) := by
              intro x y y1 y2
              have t0 : ∀ z, h3 97 z = h2 97 z := fun z => f3 97 z (by omega)
              rw [← hH, mmS_slot, mmS_slot, mmS_slot, t0, t0, t0]
              by_cases xb : x = b
              · by_cases xa : x = a
                · rw [if_pos xb, if_pos (by omega), tb_and, tb_and, tb_not y1 y2, tb_not y1 y2, tb_shl1 (by omega) (by omega) y1 y2, tb_shl1 (by omega) (by omega) y1 y2, ← xa, ← xb]
                  by_cases yy : y = x <;> simp [yy]
                · rw [if_pos xb, if_neg (by omega), tb_and, tb_not y1 y2, tb_shl1 (by omega) (by omega) y1 y2, ← xb]
                  by_cases yy : y = a <;> simp [yy, xa]
              · by_cases xa : x = a
                · rw [if_neg xb, if_pos xa, tb_and, tb_not y1 y2, tb_shl1 (by omega) (by omega) y1 y2, ← xa]
                  by_cases yy : y = b <;> simp [yy, xb]
                · rw [if_neg xb, if_neg xa]
                  simp [xa, xb]
            have f4 : Fr (Sw3 46) h h4 := by
              rw [← hH]
              exact ((f2.tr (f3.mono (fun k i q => Or.inr (by omega)))).put (Or.inr (by omega))).put (Or.inr (by omega))
            refine pB_seekG (n := h 46 1) (s := h 88 k) (t := h 89 k) (E := eG 46 h k 0 0 31 a b) (w := wG 46 h k 0 0) (by rw [g96 0 (by omega) (by omega)]; exact hW.1) (by rw [g96 1 (by omega) (by omega)]; exact hW.2.1) (by rw [g96 2 (by omega) (by omega)]; exact hW.2.2.1) n1 hs hg (wOk_G 46 h k 0 0 31 a b) (fun x y x1 x2 y1 y2 => ?_) (fun y y1 y2 => ?_) (fun h5 f5 => ?_)
            · rw [eG_all hC.T y1 y2, ← eB_Wk n1 hW x1 x2 y1 y2]
              unfold eB
              rw [g97 x y y1 (by omega), g96 3 (by omega) (by omega)]
              cases tb (h2 97 x) y <;> cases tb (h2 96 3) y <;> simp
            · rw [wG_all, g98, (hW.2.2.2.2 y y1 y2).1]; rfl
            · have F5 : Fr (Sw3 46) h h5 := f4.tr (f5.mono (fun k i q => Or.inr (by omega)))
              have nxt : ∀ (x : Int) (w w' : mmV), x = coinsW 46 h a b k → qB tFB (d + 5) k_c_worth (h 0 0) (h 0 1) Q 2 [(3, 1), (1, a), (1, b), (1, mAdd v (mSub x s0)), (1, mAdd (k : Int) 1), w, w'] [] h5 := by
                intro x w w' hx
                rw [mSub_ok (by omega) (by omega), mAdd_ok (a := v) (by omega) (by omega), mAdd_ok (a := (k : Int)) (by omega) (by omega)]
                have := ih (k + 1) (v + (x - s0)) w w' h5 (by omega) F5 (by unfold sumW; omega)
                rw [show (((k + 1 : Nat)) : Int) = (k : Int) + 1 by omega] at this
                exact this
              refine ⟨fun hf => ⟨fun _ => nxt _ _ _ ?_, fun c => absurd rfl c⟩, fun hf x4 x5 _ => ⟨fun c => absurd c (by omega), fun _ => nxt _ _ _ ?_⟩⟩
              · unfold coinsW dG; rw [if_pos hf]
              · unfold coinsW dG; rw [if_neg hf]; exact x4
          refine pB_seekG (n := h 46 1) (s := h 88 k) (t := h 89 k) (E := eG 46 h k 0 0 31 (-1) (-1)) (w := wG 46 h k 0 0) hW.1 hW.2.1 hW.2.2.1 n1 hs hg (wOk_G 46 h k 0 0 31 (-1) (-1)) (fun x y x1 x2 y1 y2 => ?_) (fun y y1 y2 => ?_) (fun h3 f3 => ⟨fun hf => ⟨fun _ => b4 _ h3 f3 ?_, fun c => absurd rfl c⟩, fun hf x4 x5 _ => ⟨fun c => absurd c (by omega), fun _ => b4 _ h3 f3 ?_⟩⟩)
          · rw [eG_all hC.T y1 y2, eB_Wk n1 hW x1 x2 y1 y2, decide_eq_false (by omega)]; simp
          · rw [wG_all, (hW.2.2.2.2 y y1 y2).1]; rfl
          · unfold coinsW dG; rw [if_pos hf]
          · unfold coinsW dG; rw [if_neg hf]; exact x4
      have := key (h 46 3).toNat 0 0 (0, 0) (0, 0) h (by omega) Fr.rf rfl
      exact this
    · exact absurd hx c
  · rw [if_neg]
    rintro ⟨⟨q1, q2⟩, q3⟩
    rcases hx with ⟨-, -, hx⟩ | ⟨-, hx⟩
    · exact c (by omega)
    · exact hx ⟨q1, q2⟩
end WOB
section WM
variable {d : Nat} {u : Int} {g h : mmH} {Q : Int → mmH → Prop}
theorem q_m_coinsAll {c1 c2 : Int} {m : mmH} (hC : Cp u g m) (f0 : Fr Smw m h) (hy : ∀ h', Fr Smw m h' → Q (sumW u g c1 c2 (g u 3).toNat) h') : qC tFM (d + 6) k_m_coinsAll [282, c1, c2] h Q := by
  obtain ⟨m0, m1, m2, m3, m4⟩ := hC.many
  have n1 := hC.T.1.2.1.2.1
  have n3 := hC.T.1.2.1.2.2.1
  refine qC_intro (T_m_coinsAll_0 _ _ _ _ _ _ _ ?_)
  have key : ∀ (j k : Nat) (h1 : mmH), (k : Int) + j = g u 3 → Fr Smw m h1 → qB tFM (d + 5) k_m_coinsAll (h 0 0) (h 0 1) Q 1 [(3, 282), (1, c1), (1, c2), (1, sumW u g c1 c2 k), (1, (k : Int))] [] h1 := by
    intro j
    induction j with
    | zero =>
      intro k h1 hk f1
      refine T_m_coinsAll_1 _ _ _ _ _ _ _ _ _ (q_m_personMany ⟨fun _ => ?_, fun c => absurd (by rw [f1 313 7 (by unfold Smw Smc Smt Spm; omega), m2]; omega) c⟩)
      rw [show k = (g u 3).toNat by omega]
      exact hy h1 f1
    | succ j ih =>
      intro k h1 hk f1
      have p1 : 0 ≤ (k : Int) := by omega
      have p2 : (k : Int) < g u 3 := by omega
      obtain ⟨hs, hg, -, e12, e13⟩ := Nw_at hC.N p1 p2
      have s1 := sumW_ok (c1 := c1) (c2 := c2) hC k (by omega)
      have w1 := coinsW_ok (c1 := c1) (c2 := c2) hC.T hs hg
      obtain ⟨hT1, hN1⟩ := Cp_Smw hC f1
      refine T_m_coinsAll_1 _ _ _ _ _ _ _ _ _ (q_m_personMany ⟨fun c => absurd c (by rw [f1 313 7 (by unfold Smw Smc Smt Spm; omega), m2]; omega), fun _ => q_m_cf hC.uu hT1 hN1 p1 p2 (fun h2 x f2 hv hx => ?_)⟩)
      have nxt : ∀ x : Int, x = coinsW u g c1 c2 k → qB tFM (d + 5) k_m_coinsAll (h 0 0) (h 0 1) Q 1 [(3, 282), (1, c1), (1, c2), (1, mAdd (sumW u g c1 c2 k) x), (1, mAdd (k : Int) 1)] [] h2 := by
        intro x hx
        rw [mAdd_ok (a := sumW u g c1 c2 k) (by omega) (by omega), mAdd_ok (a := (k : Int)) (by omega) (by omega), hx]
        have := ih (k + 1) h2 (by omega) (f1.tr f2)
        rw [show (((k + 1 : Nat)) : Int) = (k : Int) + 1 by omega] at this
        exact this
      refine ⟨fun c => nxt _ ?_, fun c => q_m_placeOf p1 (by omega) ?_⟩
      · unfold coinsW; rw [if_pos (by have := hx.neg c; exact Decidable.of_not_not this)]
      · rw [(f1.tr f2) 329 _ (by unfold Smw Smc Smt Spm; omega), e12]
        refine mmD_of (by omega) (nxt _ ?_)
        rw [(hv _ hs.1 hs.2).1]
        unfold coinsW; rw [if_neg (hx.pos c)]
  exact key (g u 3).toNat 0 h (by omega) f0
theorem b_worth {a b : Int} (hC : Cp u g h) (hy : ∀ x h', Fr Smw h h' → x = (if ((0 ≤ a ∧ a < g u 1) ∧ (0 ≤ b ∧ b < g u 1)) ∧ g (u + 23 + a) b ≠ -1 then worthV u g a b else -1000000000) → Q x h') : qC tFM (d + 7) k_m_worth [282, a, b] h Q := by
  have n3 := hC.T.1.2.1.2.2.1
  refine qC_intro (T_m_worth_0 _ _ _ _ _ _ _ (b_gap hC (fun x hx => ⟨fun c => q_m_coinsAll hC Fr.rf (fun h1 f1 => q_m_coinsAll hC f1 (fun h2 f2 => hy _ h2 f2 ?_)), fun c => hy _ h Fr.rf ?_⟩)))
  · have s1 := sumW_ok (c1 := a) (c2 := b) hC (g u 3).toNat (by omega)
    have s2 := sumW_ok (c1 := -1) (c2 := -1) hC (g u 3).toNat (by omega)
    rw [mSub_ok (by omega) (by omega)]
    by_cases q : (0 ≤ a ∧ a < g u 1) ∧ (0 ≤ b ∧ b < g u 1)
    · rw [if_pos q] at hx
      rw [if_pos ⟨q, by omega⟩]
      rfl
    · rw [if_neg q] at hx
      exact absurd hx c
  · rw [if_neg]
    rintro ⟨q1, q2⟩
    rw [if_pos q1] at hx
    exact c (by omega)
end WM
