/-! ===== mm: a person's way, on both sides ===== -/
noncomputable def eP (u : Int) (g : mmH) (p a b : Int) : Bool := nearS u g (g 86 1) p a b && opS u g p b
noncomputable def wP (u : Int) (g : mmH) (p b : Int) : Int := tollC u g p b (g 87 b)
/-- coins and steps from each lot to where he goes -/
noncomputable def dP (u : Int) (g : mmH) (p : Int) : wV := dis (g u 1) (eP u g p) (wP u g p) (g 89 p)
noncomputable def nP (u : Int) (g : mmH) (p x : Int) : Int := nx (g u 1) (eP u g p) (wP u g p) (g 89 p) (dP u g p) x
noncomputable def pP (u : Int) (g : mmH) (p : Int) (k : Nat) : Int := pth (g u 1) (eP u g p) (wP u g p) (g 89 p) (dP u g p) k (g 88 p)
theorem wOk_P (u : Int) (g : mmH) (p : Int) : wOk (g u 1) (eP u g p) (wP u g p) := by
  intro a x a1 a2 x1 x2 e
  unfold eP opS at e
  simp only [Bool.and_eq_true, decide_eq_true_eq] at e
  have := tollC_ok u g p x (g 87 x)
  unfold wP
  omega
/-- what is known of the two places -/
theorem Nw_at {u p : Int} {g h : mmH} (hN : Nw 86 329 0 u g h) (p1 : 0 ≤ p) (p2 : p < g u 3) : (0 ≤ g 88 p ∧ g 88 p < g u 1) ∧ (0 ≤ g 89 p ∧ g 89 p < g u 1) ∧ g 88 p ≠ g 89 p ∧ h 329 (12 + 2 * p) = g 88 p ∧ h 329 (12 + 2 * p + 1) = g 89 p := by
  have := hN.2.2.2.2.1 p p1 p2
  simp only [Int.reduceAdd, Int.zero_add] at this
  exact ⟨this.2.2.1, this.2.2.2.1, this.2.2.2.2, this.1, this.2.1⟩
theorem pth_congr {n : Int} {E E' : Int → Int → Bool} {w w' : Int → Int} {last : Int} (hn : n ≤ 10) (hw : wOk n E w) (hl1 : 0 ≤ last) (hl2 : last < n) {x : Int} (x1 : 0 ≤ x) (x2 : x < n) (hf : dis n E w last x ≠ wFar)
    (hE : ∀ a b, 0 ≤ a → a < n → 0 ≤ b → b < n → E a b = E' a b) (hww : ∀ b, 0 ≤ b → b < n → w b = w' b) : ∀ k : Nat, (k : Int) ≤ (dis n E w last x).2 → pth n E w last (dis n E w last) k x = pth n E' w' last (dis n E' w' last) k x
  | 0, _ => rfl
  | k + 1, hk => by
    have ih := pth_congr hn hw hl1 hl2 x1 x2 hf hE hww k (by omega)
    obtain ⟨p1, p2, -, -⟩ := pth_ok hn hw hl1 hl2 x1 x2 hf k (by omega)
    show nx n E w last (dis n E w last) (pth n E w last (dis n E w last) k x) = nx n E' w' last (dis n E' w' last) (pth n E' w' last (dis n E' w' last) k x)
    rw [← ih, ← dis_congr hE hww]
    exact nx_congr hE hww p1 p2
/-- what one side's finding leaves -/
def Sw3 (u k i : Int) : Prop := Sct u k i ∨ (96 ≤ k ∧ k ≤ 100)
def wayP (u : Int) (g : mmH) (p : Int) (h' : mmH) : Prop :=
  h' 96 4 = (dP u g p (g 88 p)).1 ∧ h' 96 5 = (dP u g p (g 88 p)).2 ∧ (∀ k : Nat, (k : Int) < (dP u g p (g 88 p)).2 → h' 99 k = pP u g p (k + 1)) ∧ (∀ l, 0 ≤ l → l < g u 1 → h' 98 l = wP u g p l)
theorem Sw3_ScC {u v k i : Int} (huv : (u = 5 ∧ v = 46) ∨ (u = 46 ∧ v = 5)) (q : Sw3 u k i) : ScC v k i := by
  unfold Sw3 Sct at q
  unfold ScC
  rcases huv with ⟨rfl, rfl⟩ | ⟨rfl, rfl⟩ <;> rcases q with (q | q) | q
  · exact Or.inl (by omega)
  · exact Or.inr (Or.inr (Or.inl ⟨Or.inl (by omega), q.2⟩))
  · exact Or.inr (Or.inr (Or.inr (Or.inl (by omega))))
  · exact Or.inr (Or.inl (by omega))
  · exact Or.inr (Or.inr (Or.inl ⟨Or.inr (by omega), q.2⟩))
  · exact Or.inr (Or.inr (Or.inr (Or.inl (by omega))))
/-- behind a look: the steps are the person's -/
theorem eB_Wk {u p : Int} {g h1 : mmH} (hn : 0 ≤ g u 1 ∧ g u 1 ≤ 10) (hW : Wk u g p h1) {a b : Int} (a1 : 0 ≤ a) (a2 : a < g u 1) (b1 : 0 ≤ b) (b2 : b < g u 1) : eB h1 a b = eP u g p a b := by
  obtain ⟨-, -, -, w3, wl⟩ := hW
  unfold eB eP
  rw [(wl a a1 a2).2, w3, setOf_tb hn.1 (by omega) b1 (by omega), setOf_tb hn.1 (by omega) b1 (by omega), decide_eq_true b2]
  simp
theorem hops_Wk {u p : Int} {g h1 : mmH} (hn : 0 ≤ g u 1 ∧ g u 1 ≤ 10) (hW : Wk u g p h1) {a l : Int} (a1 : 0 ≤ a) (a2 : a < g u 1) (l1 : 0 ≤ l) (l2 : l < 32) (e : tb (h1 97 a) l = true) : l < g u 1 := by
  rw [(hW.2.2.2.2 a a1 a2).2, setOf_tb hn.1 (by omega) l1 l2] at e
  simp only [Bool.and_eq_true, decide_eq_true_eq] at e
  exact e.1
section FWA
variable {d : Nat} {h : mmH} {Q : Int → mmH → Prop}
theorem pA_findsWay {p : Int} {m0 : mmH} (hT : Tn 5 1 h m0) (hN : Nw 86 329 0 5 h m0)
    (hno : ∀ h', Fr (Sw3 5) h h' → ¬ ((0 ≤ p ∧ p < h 5 3) ∧ dP 5 h p (h 88 p) ≠ wFar) → Q 0 h')
    (hy : ∀ h', Fr (Sw3 5) h h' → (0 ≤ p ∧ p < h 5 3) → dP 5 h p (h 88 p) ≠ wFar → wayP 5 h p h' → Q 1 h') : qC tFA (d + 6) k_c_findsWay [1, p] h Q := by
  have n1 := hT.1.2.1.2.1
  refine qC_intro (TA_c_findsWay_0 _ _ _ _ _ _ (pA_isPerson (fun x hx => ⟨fun c => ?_, fun c => hno h Fr.rf (fun q => hx.neg (Decidable.of_not_not c) q.1)⟩)))
  obtain ⟨p1, p2⟩ := hx.pos c
  obtain ⟨⟨s1, s2⟩, ⟨g1, g2⟩, -, -, -⟩ := Nw_at hN p1 p2
  refine pA_look hT hN p1 p2 (fun h1 f1 hW => ?_)
  have hE : ∀ a b, 0 ≤ a → a < h 5 1 → 0 ≤ b → b < h 5 1 → eP 5 h p a b = eB h1 a b := fun a b a1 a2 b1 b2 => (eB_Wk n1 hW a1 a2 b1 b2).symm
  have hw : ∀ b, 0 ≤ b → b < h 5 1 → wP 5 h p b = h1 98 b := fun b b1 b2 => ((hW.2.2.2.2 b b1 b2).1).symm
  have hwo : wOk (h 5 1) (eB h1) (h1 98) := wOk_congr hE hw (wOk_P 5 h p)
  obtain ⟨e0, e1, e2, e3, el⟩ := hW
  have hd : dis (h1 96 0) (eB h1) (h1 98) (h1 96 2) = dP 5 h p := by
    rw [e0, e2]
    exact (dis_congr hE hw).symm
  refine pA_seek (by rw [e0]; exact n1.1) (by rw [e0]; exact n1.2) (by rw [e0]; exact hwo) (by rw [e2]; exact g1) (by rw [e2, e0]; exact g2) (by rw [e1]; exact s1) (by rw [e1, e0]; exact s2) (fun hf h2 f2 => ?_) (fun hf h2 hw2 => ?_)
  · rw [hd, e1] at hf
    refine mmG_of (by simp) (hno h2 (f1.mono ?_ |>.tr (f2.mono ?_)) (fun q => q.2 hf))
    · intro k i q; rcases q with q | q; exact Or.inl q; exact Or.inr (by omega)
    · intro k i q; exact Or.inr (by omega)
  · rw [hd, e1] at hf
    obtain ⟨f2, x1, x2, x3⟩ := hw2
    rw [hd, e1] at x1 x2 x3
    refine mmG_of (by simp) (hy h2 (f1.mono ?_ |>.tr (f2.mono ?_)) ⟨p1, p2⟩ hf ⟨x1, x2, fun k hk => ?_, fun l l1 l2 => ?_⟩)
    · intro k i q; rcases q with q | q; exact Or.inl q; exact Or.inr (by omega)
    · intro k i q; exact Or.inr (by omega)
    · rw [x3 k hk]
      unfold pP
      rw [e0, e2]
      have := pth_congr n1.2 (wOk_P 5 h p) g1 g2 s1 s2 (x := h 88 p) hf hE hw (k + 1) (by show ((k + 1 : Nat) : Int) ≤ (dP 5 h p (h 88 p)).2; omega)
      rw [← hd, e0, e2]
      rw [← hd, e0, e2] at hf
      have e5 : dis (h 5 1) (eP 5 h p) (wP 5 h p) (h 89 p) = dis (h 5 1) (eB h1) (h1 98) (h 89 p) := dis_congr hE hw
      rw [e5] at this
      exact this.symm
    · rw [f2 98 l (by omega), (el l l1 l2).1]
      rfl
end FWA
section FWB
variable {d : Nat} {h : mmH} {Q : Int → mmH → Prop}
theorem pB_findsWay {p : Int} {m0 : mmH} (hT : Tn 46 1 h m0) (hN : Nw 86 329 0 46 h m0)
    (hno : ∀ h', Fr (Sw3 46) h h' → ¬ ((0 ≤ p ∧ p < h 46 3) ∧ dP 46 h p (h 88 p) ≠ wFar) → Q 0 h')
    (hy : ∀ h', Fr (Sw3 46) h h' → (0 ≤ p ∧ p < h 46 3) → dP 46 h p (h 88 p) ≠ wFar → wayP 46 h p h' → Q 1 h') : qC tFB (d + 6) k_c_findsWay [1, p] h Q := by
  have n1 := hT.1.2.1.2.1
  refine qC_intro (TB_c_findsWay_0 _ _ _ _ _ _ (pB_isPerson (fun x hx => ⟨fun c => ?_, fun c => hno h Fr.rf (fun q => hx.neg (Decidable.of_not_not c) q.1)⟩)))
  obtain ⟨p1, p2⟩ := hx.pos c
  obtain ⟨⟨s1, s2⟩, ⟨g1, g2⟩, -, -, -⟩ := Nw_at hN p1 p2
  refine pB_look hT hN p1 p2 (fun h1 f1 hW => ?_)
  have hE : ∀ a b, 0 ≤ a → a < h 46 1 → 0 ≤ b → b < h 46 1 → eP 46 h p a b = eB h1 a b := fun a b a1 a2 b1 b2 => (eB_Wk n1 hW a1 a2 b1 b2).symm
  have hw : ∀ b, 0 ≤ b → b < h 46 1 → wP 46 h p b = h1 98 b := fun b b1 b2 => ((hW.2.2.2.2 b b1 b2).1).symm
  have hwo : wOk (h 46 1) (eB h1) (h1 98) := wOk_congr hE hw (wOk_P 46 h p)
  obtain ⟨e0, e1, e2, e3, el⟩ := hW
  have hd : dis (h1 96 0) (eB h1) (h1 98) (h1 96 2) = dP 46 h p := by
    rw [e0, e2]
    exact (dis_congr hE hw).symm
  refine pB_seek (by rw [e0]; exact n1.1) (by rw [e0]; exact n1.2) (by rw [e0]; exact hwo) (by rw [e2]; exact g1) (by rw [e2, e0]; exact g2) (by rw [e1]; exact s1) (by rw [e1, e0]; exact s2) (fun hf h2 f2 => ?_) (fun hf h2 hw2 => ?_)
  · rw [hd, e1] at hf
    refine mmG_of (by simp) (hno h2 (f1.mono ?_ |>.tr (f2.mono ?_)) (fun q => q.2 hf))
    · intro k i q; rcases q with q | q; exact Or.inl q; exact Or.inr (by omega)
    · intro k i q; exact Or.inr (by omega)
  · rw [hd, e1] at hf
    obtain ⟨f2, x1, x2, x3⟩ := hw2
    rw [hd, e1] at x1 x2 x3
    refine mmG_of (by simp) (hy h2 (f1.mono ?_ |>.tr (f2.mono ?_)) ⟨p1, p2⟩ hf ⟨x1, x2, fun k hk => ?_, fun l l1 l2 => ?_⟩)
    · intro k i q; rcases q with q | q; exact Or.inl q; exact Or.inr (by omega)
    · intro k i q; exact Or.inr (by omega)
    · rw [x3 k hk]
      unfold pP
      rw [e0, e2]
      have := pth_congr n1.2 (wOk_P 46 h p) g1 g2 s1 s2 (x := h 88 p) hf hE hw (k + 1) (by show ((k + 1 : Nat) : Int) ≤ (dP 46 h p (h 88 p)).2; omega)
      rw [← hd, e0, e2]
      rw [← hd, e0, e2] at hf
      have e5 : dis (h 46 1) (eP 46 h p) (wP 46 h p) (h 89 p) = dis (h 46 1) (eB h1) (h1 98) (h 89 p) := dis_congr hE hw
      rw [e5] at this
      exact this.symm
    · rw [f2 98 l (by omega), (el l l1 l2).1]
      rfl
end FWB
def Smw (k i : Int) : Prop := Smc k i ∨ k = 332 ∨ k = 333
/-- what the reference's finding leaves -/
def wayM (u : Int) (g : mmH) (p : Int) (h' : mmH) : Prop :=
  (∀ x, 0 ≤ x → x < g u 1 → h' 332 x = (dP u g p x).1 ∧ h' 333 x = (dP u g p x).2) ∧ (∀ l, 0 ≤ l → l < g u 1 → h' 331 l = wP u g p l ∧ h' 330 l = if opS u g p l = true then 1 else 0)
theorem Tn_Smw {u : Int} {g h h' : mmH} (hF : Fr Smw h h') (hT : Tn u 1 g h) : Tn u 1 g h' := Tn_frM (fun k i q => hF k i (by unfold TnM at q; unfold Smw Smc Smt Spm; omega)) hT
section FM
variable {d : Nat} {g h : mmH} {Q : Int → mmH → Prop}
theorem cnS_all {u p l : Int} (hl : 0 ≤ g (u + 5 + l) 0 ∧ g (u + 5 + l) 0 < 5) : cnS u g p 0 0 31 l = opS u g p l := by
  unfold cnS opS tlS
  rw [tb_zero, if_neg (by decide), if_neg (by simp)]
  have : ∀ o : Fin 5, tb 31 (o.val : Int) = true := by decide +kernel
  have h5 := this ⟨(g (u + 5 + l) 0).toNat, by omega⟩
  rw [show (((g (u + 5 + l) 0).toNat : Nat) : Int) = g (u + 5 + l) 0 by omega] at h5
  rw [h5, Bool.and_true]
theorem q_m_hasWay {u p : Int} (hu : u = 5 ∨ u = 46) (hT : Tn u 1 g h) (hN : Nw 86 329 0 u g h) (p1 : 0 ≤ p) (p2 : p < g u 3)
    (hy : ∀ h', Fr Smw h h' → wayM u g p h' → ∀ x, YN x (dP u g p (g 88 p) ≠ wFar) → Q x h') : qC tFM (d + 6) k_m_hasWay [282, p] h Q := by
  have n1 := hT.1.2.1.2.1
  have n0 := hT.1.2.1.1
  refine qC_intro (T_m_hasWay_0 _ _ _ _ _ _ (q_m_comes hu hT hN p1 p2 (fun h1 f1 hl => ?_)))
  have hcn : ∀ l, 0 ≤ l → l < g u 1 → h1 331 l = wP u g p l ∧ h1 330 l = if opS u g p l = true then 1 else 0 := by
    intro l l1 l2
    have := hl l l1 l2
    have hll := (hT.2.1 l l1 l2).1
    rw [cnS_all ⟨hll.2.1, by omega⟩] at this
    refine ⟨?_, this.2⟩
    rw [this.1]
    unfold wP tlS
    rw [tb_zero, if_neg (by decide), if_neg (by simp)]
  have hE : ∀ a b, 0 ≤ a → a < g u 1 → 0 ≤ b → b < g u 1 → eP u g p a b = eM u g h1 p (-1) (-1) a b := by
    intro a b a1 a2 b1 b2
    unfold eP eM
    rw [decide_eq_false (by omega), (hcn b b1 b2).2]
    cases opS u g p b <;> simp
  have hw : ∀ b, 0 ≤ b → b < g u 1 → wP u g p b = h1 331 b := fun b b1 b2 => ((hcn b b1 b2).1).symm
  have hd : dis (g u 1) (eM u g h1 p (-1) (-1)) (h1 331) (g 89 p) = dP u g p := (dis_congr hE hw).symm
  have hT1 : Tn u 1 g h1 := Tn_frM (fun k i q => f1 k i (by unfold TnM at q; unfold Smc Smt Spm; omega)) hT
  have hN1 : Nw 86 329 0 u g h1 := Nw_eq rfl rfl rfl (funext fun i => f1 329 i (by unfold Smc Smt Spm; omega)) (fun _ _ _ => rfl) hN
  refine q_m_finds hT1 hN1 p1 p2 (wOk_congr hE hw (wOk_P u g p)) (fun l l1 l2 => by rw [(hcn l l1 l2).2]; split <;> omega) (fun h2 hR x hx => mmG_of (by have := hx.b; simp; omega) (hy h2 ?_ ⟨?_, fun l l1 l2 => ?_⟩ x ?_))
  · exact (f1.mono (fun _ _ q => Or.inl q)).tr (hR.1.mono (fun _ _ q => Or.inr q))
  · rw [hd] at hR
    exact hR.2.1
  · rw [hR.1 331 l (by omega), hR.1 330 l (by omega)]
    exact hcn l l1 l2
  · rw [hd] at hx
    exact hx
/-- the next lot, on the reference's side -/
theorem q_m_nextOf {u p x : Int} (hT : Tn u 1 g h) (hs : h 329 1 = g 86 1 ∧ 0 ≤ g 86 1 ∧ g 86 1 ≤ 9) (hg : 0 ≤ g 89 p ∧ g 89 p < g u 1) (p1 : 0 ≤ p) (p2 : p < g u 3) (hW : wayM u g p h) (x1 : 0 ≤ x) (x2 : x < g u 1) (hx : x ≠ g 89 p) (hf : dP u g p x ≠ wFar)
    (hy : Q (nP u g p x) h) : qC tFM (d + 3) k_m_nextOf [282, p, x] h Q := by
  have n1 := hT.1.2.1.2.1
  have hI := dis_inv n1.2 (wOk_P u g p) hg.1 hg.2
  have hok := nx_ok n1.2 (wOk_P u g p) hg.1 hg.2 x1 x2 hx hf
  refine qC_intro (T_m_nextOf_0 _ _ _ _ _ _ _ ?_)
  have key : ∀ (m : Nat) (i : Int), i + m = g u 1 → 0 ≤ i → nP u g p x = fstR (nxP (eP u g p) (wP u g p) (dP u g p) x) (g 89 p) m i → (∃ y, i ≤ y ∧ y < i + m ∧ nxP (eP u g p) (wP u g p) (dP u g p) x y = true) → qB tFM (d + 2) k_m_nextOf (h 0 0) (h 0 1) Q 1 [(3, 282), (1, p), (1, x), (1, i)] [] h := by
    intro m
    induction m with
    | zero => intro i hi i0 hq hex; obtain ⟨y, y1, y2, _⟩ := hex; omega
    | succ m ih =>
      intro i hi i0 hq hex
      unfold fstR at hq
      obtain ⟨v1, v2⟩ := hW.1 x x1 x2
      obtain ⟨c1, c2⟩ := hW.1 i i0 (by omega)
      obtain ⟨b1, b2⟩ := hW.2 i i0 (by omega)
      have go : nxP (eP u g p) (wP u g p) (dP u g p) x i ≠ true → qB tFM (d + 2) k_m_nextOf (h 0 0) (h 0 1) Q 1 [(3, 282), (1, p), (1, x), (1, mAdd i 1)] [] h := by
        intro hn
        rw [if_neg hn] at hq
        rw [mAdd_ok (a := i) (by omega) (by omega)]
        obtain ⟨y, y1, y2, y3⟩ := hex
        have : y ≠ i := fun q => hn (by rw [← q]; exact y3)
        exact ih (i + 1) (by omega) (by omega) hq ⟨y, by omega, by omega, y3⟩
      refine T_m_nextOf_1 _ _ _ _ _ _ _ _ (mmD_of (by omega) ?_)
      rw [b2]
      refine ⟨fun c => go (fun q => ?_), fun c => q_m_isNear hT hs p1 p2 x1 x2 i0 (by omega) (fun z hz => ⟨fun c2' => go (fun q => ?_), fun c2' => ?_⟩)⟩
      · unfold nxP eP at q
        simp only [Bool.and_eq_true] at q
        rw [if_pos q.1.2] at c
        omega
      · unfold nxP eP at q
        simp only [Bool.and_eq_true] at q
        exact hz.neg c2' q.1.1
      · have hop : opS u g p i = true := by
          cases e : opS u g p i with
          | true => rfl
          | false => rw [e] at c; simp at c
        have hne := hz.pos c2'
        have heP : eP u g p x i = true := by unfold eP; rw [hne, hop]; rfl
        simp only [mmD_iff]
        rw [c1, c2, v1, v2, b1]
        have hw := wOk_P u g p x i x1 x2 i0 (by omega) heP
        refine ⟨by omega, fun c3 => go (fun q => ?_), fun c3 => ?_⟩
        · unfold nxP at q
          simp only [Bool.and_eq_true, decide_eq_true_eq] at q
          exact q.2.1 ((wFar_iff hI n1.2 i0 (by omega)).mp c3)
        · have hfi : dP u g p i ≠ wFar := fun q => c3 (by rw [q]; rfl)
          have vi := wInv_fin hI n1.2 i0 (by omega) hfi
          have e1 : 0 ≤ (dP u g p i).1 ∧ (dP u g p i).1 ≤ 8991 ∧ 0 ≤ (dP u g p i).2 ∧ (dP u g p i).2 < g u 1 := vi
          rw [mAdd_ok (a := (dP u g p i).1) (by omega) (by omega), mAdd_ok (a := (dP u g p i).2) (by omega) (by omega)]
          refine ⟨by omega, by omega, by omega, fun c4 => go (fun q => ?_), fun c4 => ⟨by omega, by omega, fun c5 => ?_, fun c5 => go (fun q => ?_)⟩⟩
          · unfold nxP at q
            simp only [Bool.and_eq_true, decide_eq_true_eq] at q
            exact c4 q.2.2.1
          · have hnx : nxP (eP u g p) (wP u g p) (dP u g p) x i = true := by
              unfold nxP
              rw [heP, decide_eq_true ⟨hfi, Decidable.of_not_not c4, c5⟩]
              rfl
            rw [if_pos hnx] at hq
            rw [← hq]
            exact hy
          · unfold nxP at q
            simp only [Bool.and_eq_true, decide_eq_true_eq] at q
            exact c5 q.2.2.2
  obtain ⟨y, y1, y2, y3, y4, y5, y6⟩ := dis_next n1.2 (wOk_P u g p) hg.1 hg.2 x1 x2 hx hf
  exact key (g u 1).toNat 0 (by omega) (Int.le_refl _) rfl ⟨y, y1, by omega, by
    unfold nxP
    rw [y3, decide_eq_true ⟨y4, y5.symm, y6.symm⟩]
    rfl⟩
end FM
