/-! ===== mm: drawing ===== -/
theorem and31 (x : Int) : (Int32.ofInt x &&& Int32.ofInt 2147483647).toInt = x % 2147483648 := by
  have e1 : (Int32.ofInt x &&& Int32.ofInt 2147483647).toBitVec = BitVec.ofInt 32 x &&& 2147483647#32 := by
    rw [Int32.toBitVec_and, Int32.toBitVec_ofInt]; rfl
  have e2 : (BitVec.ofInt 32 x &&& 2147483647#32).toNat = (x % 2147483648).toNat := by
    rw [BitVec.toNat_and, BitVec.toNat_ofInt, show (2147483647#32).toNat = 2 ^ 31 - 1 from rfl, Nat.and_two_pow_sub_one_eq_mod]
    show (x % 4294967296).toNat % 2147483648 = (x % 2147483648).toNat
    omega
  show (Int32.ofInt x &&& Int32.ofInt 2147483647).toBitVec.toInt = _
  rw [e1, BitVec.toInt_eq_toNat_of_lt (by rw [e2]; show 2 * (x % 2147483648).toNat < 4294967296; omega), e2]
  omega
theorem mLcg (c s k : Int) : mAnd (mAdd (mMul c s) k) 2147483647 = (c * s + k) % 2147483648 := by
  rw [mAnd_def, mAdd_def, Int32.ofInt_toInt, mMul_def, Int32.ofInt_toInt, ← Int32.ofInt_mul, ← Int32.ofInt_add]
  exact and31 _
theorem mShr6 {a : Int} (h1 : 0 ≤ a) (h2 : a < 2147483648) : mShr a 6 = a / 64 := by
  rw [mShr_def]
  show (Int32.ofInt a >>> (Int32.ofInt 6 &&& 31)).toBitVec.toInt = _
  rw [Int32.toBitVec_shiftRight, BitVec.sshiftRight_eq', shiftN_32 (by omega) (by omega), BitVec.toInt_sshiftRight]
  show (Int32.ofInt a).toInt >>> 6 = _
  rw [Int32.toInt_ofInt_of_le (by omega) (by omega), Int.shiftRight_eq_div_pow]
  rfl
theorem nDiv_nn {a b : Int} (h1 : 0 ≤ a) (h2 : a < 9223372036854775808) (h3 : 0 < b) (h4 : b < 9223372036854775808) : nDiv a b = a / b := by
  rw [nDiv_def, Int64.toInt_div_of_ne_left _ _ (fun q => by
    have := congrArg Int64.toInt q
    rw [Int64.toInt_ofInt_of_le (by omega) (by omega)] at this
    rw [this] at h1
    exact absurd h1 (by decide)), Int64.toInt_ofInt_of_le (by omega) (by omega), Int64.toInt_ofInt_of_le (by omega) (by omega), Int.tdiv_eq_ediv_of_nonneg h1]
theorem nRem_nn {a b : Int} (h1 : 0 ≤ a) (h2 : a < 9223372036854775808) (h3 : 0 < b) (h4 : b < 9223372036854775808) : nRem a b = a % b := by
  have e := nDiv_nn h1 h2 h3 h4
  rw [nDiv_def] at e
  have q1 : 0 ≤ a / b := Int.ediv_nonneg h1 (by omega)
  have q2 : a / b * b ≤ a := Int.ediv_mul_le a (by omega)
  have q3 : a / b ≤ a := Int.ediv_le_self b h1
  have q6 : 0 ≤ a / b * b := Int.mul_nonneg q1 (by omega)
  have q5 : a / b * b + a % b = a := Int.ediv_mul_add_emod a b
  rw [nRem_def]
  have e1 : Int64.ofInt a / Int64.ofInt b = Int64.ofInt (a / b) := by
    apply Int64.toInt.inj
    rw [e, Int64.toInt_ofInt_of_le (by omega) (by omega)]
  rw [e1, ← Int64.ofInt_mul, ← Int64.ofInt_sub, Int64.toInt_ofInt_of_le (by omega) (by omega)]
  omega
theorem mL2i_nn {a : Int} (h1 : -2147483648 ≤ a) (h2 : a < 2147483648) : mL2i a = a := by
  rw [mL2i_def, Int64.toInt32_ofInt, Int32.toInt_ofInt_of_le (by omega) (by omega)]
def lcg (s : Int) : Int := (1103515245 * s + 12345) % 2147483648
theorem lcg_ok (s : Int) : 0 ≤ lcg s ∧ lcg s < 2147483648 := by unfold lcg; omega
section DW
variable {d : Nat} {h : mmH} {Q : Int → mmH → Prop}
theorem q_m_drawOf (s1 : 0 ≤ h 282 69) (s2 : h 282 69 < 2147483648) (hy : Q (lcg (h 282 69) / 64 % 100) (mmS h 282 69 (lcg (h 282 69)))) : qC tFM (d + 1) k_m_drawOf [282, 100] h Q := by
  have l := lcg_ok (h 282 69)
  refine qC_intro (T_m_drawOf_0 _ _ _ _ _ _ (mmD_of (by omega) ?_))
  have e : nRem (nAdd (nMul 1103515245 (h 282 69)) 12345) 2147483648 = lcg (h 282 69) := by
    rw [nMul_ok (by omega) (by omega), nAdd_ok (by omega) (by omega), nRem_nn (by omega) (by omega) (by omega) (by omega)]
    rfl
  rw [e, nDiv_nn (by omega) (by omega) (by omega) (by omega), nRem_nn (by omega) (by omega) (by omega) (by omega), mL2i_nn (by omega) (by omega)]
  exact hy
end DW
/-! ===== mm: going, a night ===== -/
noncomputable def rainH (u : Int) (g : mmH) : Nat → mmH
  | 0 => g
  | n + 1 => if g 87 n < 3 then mmS (rainH u g n) 90 (g (u + 5 + n) 0) (mSub (rainH u g n 90 (g (u + 5 + n) 0)) 1) else rainH u g n
theorem rainH_fr (u : Int) (g : mmH) : ∀ n, Fr (fun k _ => k = 90) g (rainH u g n)
  | 0 => Fr.rf
  | n + 1 => by
    unfold rainH
    split
    · exact (rainH_fr u g n).put rfl
    · exact rainH_fr u g n
def wayIs (u : Int) (g : mmH) (p : Int) : Prop := (0 ≤ p ∧ p < g u 3) ∧ dP u g p (g 88 p) ≠ wFar
def goP (u : Int) (g : mmH) (p x : Int) (g' : mmH) : Prop := (¬ wayIs u g p ∧ x = -1 ∧ Fr (Sw3 u) g g') ∨
  (wayIs u g p ∧ x = (dP u g p (g 88 p)).1 ∧ ∃ g1 g2, Fr (Sw3 u) g g1 ∧ kept g1 g2 ∧ g' = turnH p (goN u p (wP u g p) (fun k => pP u g p (k + 1)) g2 (dP u g p (g 88 p)).2.toNat))
def nigR (u : Int) : Nat → Int → mmH → Int → mmH → Int → Prop
  | 0, _, g, s, g', s' => g' = g ∧ s' = s
  | n + 1, k, g, s, g', s' => ∃ x g1, walkP u g k x g1 ∧ nigR u n (k + 1) g1 (s + x) g' s'
noncomputable def weathH (u : Int) (g : mmH) : mmH := if lcg (g 1 8) / 64 % 100 < g u 5 then rainH u (mmS g 1 8 (lcg (g 1 8))) (g u 1).toNat else mmS g 1 8 (lcg (g 1 8))
def nightP (u : Int) (g : mmH) (x : Int) (g' : mmH) : Prop := (¬ g 86 0 < 999 ∧ x = -1 ∧ g' = g) ∨
  (g 86 0 < 999 ∧ ∃ g1 g2, kept g g1 ∧ nigR u (g u 3).toNat 0 g1 0 g2 x ∧ g' = mmS (weathH u g2) 86 0 (weathH u g2 86 0 + 1))
/-- bounds of what is now -/
def NwB (u : Int) (g : mmH) : Prop := (0 ≤ g 86 0 ∧ g 86 0 ≤ 999) ∧ (0 ≤ g 86 1 ∧ g 86 1 ≤ 9) ∧ (0 ≤ g 86 2 ∧ g 86 2 ≤ 60) ∧ (∀ l, 0 ≤ l → l < g u 1 → 0 ≤ g 87 l ∧ g 87 l ≤ 30) ∧
  (∀ p, 0 ≤ p → p < g u 3 → (0 ≤ g 88 p ∧ g 88 p < g u 1) ∧ (0 ≤ g 89 p ∧ g 89 p < g u 1) ∧ g 88 p ≠ g 89 p)
/-- what is now, as the reference has it -/
def nowR (g : mmH) (i : Int) : Int := if i = 0 then g 86 0 else if i = 1 then g 86 1 else if i < 12 then g 87 (i - 2) else if i < 24 then (if (i - 12) % 2 = 0 then g 88 ((i - 12) / 2) else g 89 ((i - 12) / 2)) else if i < 29 then g 90 (i - 24) else if i = 29 then g 86 2 else
  if (i - 30) % 3 = 0 then g 92 ((i - 30) / 3) else if (i - 30) % 3 = 1 then g 93 ((i - 30) / 3) else g 94 ((i - 30) / 3)
section NB
variable {u : Int} {g g' h : mmH}
theorem Nw_B (hN : Nw 86 329 0 u g h) : NwB u g := by
  obtain ⟨a1, a2, a3, a4, a5, a6, a7⟩ := hN
  exact ⟨a1.2, a2.2, a3.2, fun l l1 l2 => (a4 l l1 l2).2, fun p p1 p2 => (a5 p p1 p2).2.2⟩
theorem Nw_mk (n : g u 0 ≤ 5 ∧ g u 1 ≤ 10 ∧ g u 3 ≤ 6) (hB : NwB u g) : Nw 86 329 0 u g (fun k i => if k = 329 then nowR g i else h k i) := by
  obtain ⟨a1, a2, a3, a4, a5⟩ := hB
  unfold Nw
  simp only [Int.reduceAdd, Int.zero_add, if_true]
  refine ⟨⟨?_, a1⟩, ⟨?_, a2⟩, ⟨?_, a3⟩, fun l l1 l2 => ⟨?_, a4 l l1 l2⟩, fun p p1 p2 => ⟨?_, ?_, a5 p p1 p2⟩, fun q q1 q2 => ?_, fun k k1 k2 => ⟨?_, ?_, ?_⟩⟩
  · unfold nowR; rw [if_pos rfl]
  · unfold nowR; rw [if_neg (by omega), if_pos rfl]
  · unfold nowR; rw [if_neg (by omega), if_neg (by omega), if_neg (by omega), if_neg (by omega), if_neg (by omega), if_pos rfl]
  · unfold nowR; rw [if_neg (by omega), if_neg (by omega), if_pos (by omega), show 2 + l - 2 = l by omega]
  · unfold nowR; rw [if_neg (by omega), if_neg (by omega), if_neg (by omega), if_pos (by omega), if_pos (by omega), show (12 + 2 * p - 12) / 2 = p by omega]
  · unfold nowR; rw [if_neg (by omega), if_neg (by omega), if_neg (by omega), if_pos (by omega), if_neg (by omega), show (12 + 2 * p + 1 - 12) / 2 = p by omega]
  · unfold nowR; rw [if_neg (by omega), if_neg (by omega), if_neg (by omega), if_neg (by omega), if_pos (by omega), show 24 + q - 24 = q by omega]
  · unfold nowR; rw [if_neg (by omega), if_neg (by omega), if_neg (by omega), if_neg (by omega), if_neg (by omega), if_neg (by omega), if_pos (by omega), show (30 + 3 * k - 30) / 3 = k by omega]
  · unfold nowR; rw [if_neg (by omega), if_neg (by omega), if_neg (by omega), if_neg (by omega), if_neg (by omega), if_neg (by omega), if_neg (by omega), if_pos (by omega), show (30 + 3 * k + 1 - 30) / 3 = k by omega]
  · unfold nowR; rw [if_neg (by omega), if_neg (by omega), if_neg (by omega), if_neg (by omega), if_neg (by omega), if_neg (by omega), if_neg (by omega), if_neg (by omega), show (30 + 3 * k + 2 - 30) / 3 = k by omega]
theorem walk_fr {p x : Int} (hp : walkP u g p x g') : Fr (fun k i => Sw3 u k i ∨ SwK k i ∨ k = 88 ∨ k = 89) g g' := by
  rcases hp with ⟨-, -, fg⟩ | ⟨-, g1, w, path, n, fg, -, -, -, -, rfl⟩
  · exact fg.mono (fun _ _ q => Or.inl q)
  · exact ((fg.mono (fun _ _ q => Or.inl q)).tr ((goN_fr u p w path g1 n).mono (fun _ _ q => Or.inr (Or.inl q)))).tr ((turnH_fr p _).mono (fun _ _ q => Or.inr (Or.inr q)))
theorem walk_B {p x : Int} (hu : u = 5 ∨ u = 46) (n : g u 0 ≤ 5 ∧ g u 1 ≤ 10 ∧ g u 3 ≤ 6) (p1 : 0 ≤ p) (p2 : p < g u 3) (hB : NwB u g) (hp : walkP u g p x g') : NwB u g' := by
  obtain ⟨a1, a2, a3, a4, a5⟩ := hB
  have sw : ∀ g1, Fr (Sw3 u) g g1 → (∀ k i, (86 ≤ k ∧ k ≤ 94) ∨ (k = u ∧ i ≤ 5) → g1 k i = g k i) := fun g1 f k i q => f k i (by unfold Sw3 Sct; omega)
  rcases hp with ⟨-, -, fg⟩ | ⟨-, g1, w, path, n, fg, -, -, -, -, rfl⟩
  · have f := sw _ fg
    unfold NwB
    rw [f 86 0 (by omega), f 86 1 (by omega), f 86 2 (by omega), f u 1 (by omega), f u 3 (by omega)]
    exact ⟨a1, a2, a3, fun l l1 l2 => by rw [f 87 l (by omega)]; exact a4 l l1 l2, fun q q1 q2 => by rw [f 88 q (by omega), f 89 q (by omega)]; exact a5 q q1 q2⟩
  · have f := sw _ fg
    have rb : rwB (g u 1) g1 := ⟨fun l l1 l2 => by rw [f 87 l (by omega)]; exact a4 l l1 l2, by rw [f 86 2 (by omega)]; exact a3⟩
    have rb2 := goN_B (u := u) (p := p) (w := w) (path := path) rb n
    have fG : ∀ k i, ¬ SwK k i → goN u p w path g1 n k i = g1 k i := goN_fr u p w path g1 n
    have hk : ∀ k i, k ≠ 88 → k ≠ 89 → turnH p (goN u p w path g1 n) k i = goN u p w path g1 n k i := fun k i q q2 => by unfold turnH; rw [mmS_cell q, mmS_cell q2]
    have g8 : ∀ i, turnH p (goN u p w path g1 n) 88 i = if i = p then g 89 p else g 88 i := fun i => by unfold turnH; rw [mmS_slot, mmS_cell (by omega), fG 89 p (by unfold SwK; omega), fG 88 i (by unfold SwK; omega), f 89 p (by omega), f 88 i (by omega)]
    have g9 : ∀ i, turnH p (goN u p w path g1 n) 89 i = if i = p then g 88 p else g 89 i := fun i => by unfold turnH; rw [mmS_cell (by omega), mmS_slot, fG 89 i (by unfold SwK; omega), fG 88 p (by unfold SwK; omega), f 88 p (by omega), f 89 i (by omega)]
    unfold NwB
    rw [hk 86 0 (by omega) (by omega), hk 86 1 (by omega) (by omega), hk 86 2 (by omega) (by omega), hk u 1 (by omega) (by omega), hk u 3 (by omega) (by omega), fG 86 0 (by unfold SwK; omega), fG 86 1 (by unfold SwK; omega), fG u 1 (by unfold SwK; omega), fG u 3 (by unfold SwK; omega), f 86 0 (by omega), f 86 1 (by omega), f u 1 (by omega), f u 3 (by omega)]
    refine ⟨a1, a2, rb2.2, fun l l1 l2 => by rw [hk 87 l (by omega) (by omega)]; exact rb2.1 l l1 l2, fun q q1 q2 => ?_⟩
    rw [g8, g9]
    by_cases e : q = p
    · have := a5 p p1 p2
      rw [if_pos e, if_pos e]
      exact ⟨this.2.1, this.1, fun z => this.2.2 z.symm⟩
    · rw [if_neg e, if_neg e]; exact a5 q q1 q2
theorem walk_x {p x : Int} (hN : Nw 86 329 0 u g h) (n1 : 0 ≤ g u 1 ∧ g u 1 ≤ 10) (p1 : 0 ≤ p) (p2 : p < g u 3) (hp : walkP u g p x g') : 0 ≤ x ∧ x ≤ 10 := by
  rcases hp with ⟨-, rfl, -⟩ | ⟨hf, g1, w, path, n, -, -, -, hn, rfl, -⟩
  · omega
  · have := cntN_B u p w path g1 n
    have := pP_steps hN n1 p1 p2 hf
    omega
theorem setNow_fr : Fr SnM h (fun k i => if k = 329 then nowR g i else h k i) := fun k i q => by
  show (if k = 329 then nowR g i else h k i) = h k i
  rw [if_neg (fun z => q (Or.inl z))]
theorem walk_C {p x : Int} (hu : u = 5 ∨ u = 46) (hC : Cy u g h) (p1 : 0 ≤ p) (p2 : p < g u 3) (hp : walkP u g p x g') : ∃ h', Cy u g' h' := by
  have n := hC.1.1.1.2.1
  have nn : g u 0 ≤ 5 ∧ g u 1 ≤ 10 ∧ g u 3 ≤ 6 := ⟨n.1.2, n.2.1.2, n.2.2.1.2⟩
  have hB := walk_B hu nn p1 p2 (Nw_B hC.2) hp
  have hF := walk_fr hp
  have f : ∀ k i, ¬ (Sw3 u k i ∨ SwK k i ∨ k = 88 ∨ k = 89) → g' k i = g k i := hF
  refine ⟨_, Cy_now hu (hF.mono (fun k i q => ?_)) (setNow_fr (g := g') (h := h)) (Nw_mk (h := h) ?_ hB) hC⟩
  · rcases q with q | q | q
    · exact Sw3_SnC hu q
    · unfold SwK at q; unfold SnC; omega
    · unfold SnC; omega
  · rw [f u 0 (by unfold Sw3 Sct SwK; omega), f u 1 (by unfold Sw3 Sct SwK; omega), f u 3 (by unfold Sw3 Sct SwK; omega)]
    exact nn
theorem kept_C (hu : u = 5 ∨ u = 46) (hk : kept g g') (hC : Cy u g h) : ∃ h', Cy u g' h' := by
  refine ⟨_, keptCy hu hk (h' := fun k i => if k = 334 then (if 210 * ((h 282 68 + 1) % 20) ≤ i ∧ i < 210 * ((h 282 68 + 1) % 20) + 210 then h 329 (i - 210 * ((h 282 68 + 1) % 20)) else h 334 i) else if k = 282 then (if i = 68 then (h 282 68 + 1) % 20 else if i = 67 then (if 20 ≤ h 282 67 then h 282 67 else h 282 67 + 1) else h 282 i) else h k i) ⟨fun k i q => ?_, ?_, ?_, fun i => ?_⟩ hC⟩
  · show (if k = 334 then _ else if k = 282 then _ else h k i) = h k i
    rw [if_neg (fun z => q (Or.inl z))]
    by_cases e : k = 282
    · rw [if_pos e, if_neg (fun z => q (Or.inr ⟨e, Or.inr z⟩)), if_neg (fun z => q (Or.inr ⟨e, Or.inl z⟩)), e]
    · rw [if_neg e]
  · rfl
  · rfl
  · rfl
theorem way_same {p : Int} (hu : u = 5 ∨ u = 46) (hN : Nw 86 329 0 u g h) (n1 : 0 ≤ g u 1 ∧ g u 1 ≤ 10) (n3 : g u 3 ≤ 6) (p1 : 0 ≤ p) (p2 : p < g u 3) (hF : Fr (fun k i => Sw3 u k i ∨ (102 ≤ k ∧ k ≤ 281) ∨ k = 1) g g') :
    dP u g' p = dP u g p ∧ g' 88 p = g 88 p ∧ g' u 1 = g u 1 ∧ (∀ l, 0 ≤ l → l < g u 1 → wP u g' p l = wP u g p l) ∧ (dP u g p (g 88 p) ≠ wFar → ∀ k : Nat, (k : Int) ≤ (dP u g p (g 88 p)).2 → pP u g' p k = pP u g p k) := by
  have f : ∀ k i, ¬ (Sw3 u k i ∨ (102 ≤ k ∧ k ≤ 281) ∨ k = 1) → g' k i = g k i := hF
  have e1 := f u 1 (by unfold Sw3 Sct; omega)
  have e8 := f 88 p (by unfold Sw3 Sct; omega)
  have e9 := f 89 p (by unfold Sw3 Sct; omega)
  have e86 := f 86 1 (by unfold Sw3 Sct; omega)
  obtain ⟨hs, hg, -, -, -⟩ := Nw_at hN p1 p2
  have hT : ∀ l t, 0 ≤ l → l < g u 1 → tollC u g' p l t = tollC u g p l t := fun l t l1 l2 => tollC_eq (fun k i q => f k i (by unfold Sw3 Sct; omega)) p1 (by omega) l1 (by omega)
  have hw : ∀ l, 0 ≤ l → l < g u 1 → wP u g' p l = wP u g p l := fun l l1 l2 => by
    unfold wP
    rw [hT l _ l1 l2, f 87 l (by unfold Sw3 Sct; omega)]
  have hE : ∀ a b, 0 ≤ a → a < g u 1 → 0 ≤ b → b < g u 1 → eP u g' p a b = eP u g p a b := fun a b a1 a2 b1 b2 => by
    unfold eP opS
    rw [nearS_eq (fun k i q => f k i (by unfold Sw3 Sct; omega)) p1 (by omega) a1 (by omega) b1 (by omega), hT b _ b1 b2, f 87 b (by unfold Sw3 Sct; omega), e86]
  have hd : dP u g' p = dP u g p := by
    unfold dP
    rw [e1, e9]
    exact dis_congr hE hw
  refine ⟨hd, e8, e1, hw, fun hf k hk => ?_⟩
  have := pth_congr (E' := eP u g' p) (w' := wP u g' p) n1.2 (wOk_P u g p) hg.1 hg.2 hs.1 hs.2 hf (fun a b a1 a2 b1 b2 => (hE a b a1 a2 b1 b2).symm) (fun b b1 b2 => (hw b b1 b2).symm) k hk
  unfold pP dP
  rw [e1, e9, e8]
  exact this.symm
theorem Cy_seed {v : Int} (hu : u = 5 ∨ u = 46) (v1 : 0 ≤ v) (v2 : v < 2147483648) (hC : Cy u g h) : Cy u (mmS g 1 8 v) (mmS h 282 69 v) := by
  refine Cy_io hu (Fr.rf.put (by omega)) (Fr.rf.put (by omega)) ?_ ⟨?_, ?_, ?_⟩ ?_ ?_ hC
  · have := hC.1.2.2.1
    unfold cTape at this ⊢
    rw [mmS_slot, if_neg (by omega), mmS_slot, if_neg (by omega)]
    refine ⟨this.1, fun i i1 i2 => ?_⟩
    rw [mmS_cell (by omega), mmS_cell (by omega)]
    exact this.2 i i1 i2
  · rw [mmS_slot, mmS_slot, if_pos rfl, if_pos rfl]
  · rw [mmS_slot, if_pos rfl]; exact v1
  · rw [mmS_slot, if_pos rfl]; omega
  · have := hC.1.2.2.2.2.1
    unfold cShot at this ⊢
    rw [mmS_slot, if_neg (by omega), mmS_slot, if_neg (by omega)]
    refine ⟨this.1, fun k k1 k2 => ?_⟩
    rw [mmS_cell (by omega), mmS_cell (by omega)]
    exact this.2 k k1 k2
  · have := hC.1.2.2.2.2.2.1
    unfold cFault at this ⊢
    rw [mmS_slot, if_neg (by omega), mmS_slot, if_neg (by omega), mmS_cell (by omega), mmS_cell (by omega)]
    exact this
theorem Cy_nite {v : Int} (hu : u = 5 ∨ u = 46) (v1 : 0 ≤ v) (v2 : v ≤ 999) (hC : Cy u g h) : Cy u (mmS g 86 0 v) (mmS h 329 0 v) := by
  refine Cy_now hu (Fr.rf.put (by unfold SnC; omega)) (Fr.rf.put (Or.inl rfl)) ?_ hC
  obtain ⟨a1, a2, a3, a4, a5, a6, a7⟩ := hC.2
  have n := hC.1.1.1.2.1
  have gs : ∀ k i, ¬ (k = 86 ∧ i = 0) → mmS g 86 0 v k i = g k i := fun k i q => by
    by_cases q1 : k = 86
    · subst q1; rw [mmS_slot, if_neg (by omega)]
    · rw [mmS_cell q1]
  have hs : ∀ i, i ≠ 0 → mmS h 329 0 v 329 i = h 329 i := fun i q => by rw [mmS_slot, if_neg q]
  unfold Nw
  rw [gs u 0 (by omega), gs u 1 (by omega), gs u 3 (by omega), gs 86 1 (by omega), gs 86 2 (by omega), hs (0 + 1) (by omega), hs (0 + 29) (by omega)]
  refine ⟨⟨?_, ?_⟩, a2, a3, fun l l1 l2 => ?_, fun p p1 p2 => ?_, fun q q1 q2 => ?_, fun k k1 k2 => ?_⟩
  · rw [mmS_slot, if_pos (by omega), mmS_slot, if_pos rfl]
  · rw [mmS_slot, if_pos rfl]; exact ⟨v1, v2⟩
  · rw [gs _ _ (by omega), hs _ (by omega)]; exact a4 l l1 l2
  · rw [gs _ _ (by omega), gs _ _ (by omega), hs _ (by omega), hs _ (by omega)]; exact a5 p p1 p2
  · rw [gs _ _ (by omega), hs _ (by omega)]; exact a6 q q1 q2
  · rw [gs _ _ (by omega), gs _ _ (by omega), gs _ _ (by omega), hs _ (by omega), hs _ (by omega), hs _ (by omega)]; exact a7 k k1 k2
end NB
section GOA
variable {d : Nat} {h m0 : mmH} {Q : Int → mmH → Prop}
theorem pA_goes {p : Int} {h2 : mmH} (hC : Cy 5 h m0) (p1 : 0 ≤ p) (p2 : p < h 5 3) (hf : dP 5 h p (h 88 p) ≠ wFar) (hW : wayP 5 h p h2) (hF : Fr (fun k i => Sw3 5 k i ∨ (102 ≤ k ∧ k ≤ 281) ∨ k = 1) h h2)
    (hy : Q (cntN 5 p (wP 5 h p) (fun k => pP 5 h p (k + 1)) h2 (dP 5 h p (h 88 p)).2.toNat) (turnH p (goN 5 p (wP 5 h p) (fun k => pP 5 h p (k + 1)) h2 (dP 5 h p (h 88 p)).2.toNat))) : qC tFA (d + 3) k_c_goFoundWay [1, p] h2 Q := by
  have f : ∀ k i, ¬ (Sw3 5 k i ∨ (102 ≤ k ∧ k ≤ 281) ∨ k = 1) → h2 k i = h k i := hF
  have n0 := hC.1.1.1.2.1.1
  have n1 := hC.1.1.1.2.1.2.1
  have n3 := hC.1.1.1.2.1.2.2.1
  have n4 := hC.1.1.1.2.2.1
  have hN := hC.2
  have st := pP_steps hN n1 p1 p2 hf
  refine pA_goFoundWay (n := h 5 1) p1 (by omega) st.2.2.1 (by omega) n1.2 hW.2.1 (fun k hk => ?_) hW.2.2.2 (by rw [f 5 4 (by unfold Sw3 Sct; omega)]; exact n4.1) (by rw [f 5 4 (by unfold Sw3 Sct; omega)]; exact n4.2) (fun l l1 l2 => ?_) ⟨fun l l1 l2 => ?_, ?_⟩ hy
  · have := pP_ok hN n1 p1 p2 hf (k + 1) (by omega)
    exact ⟨hW.2.2.1 k hk, this.1, this.2.1⟩
  · have := (hC.1.1.2.1 l l1 l2).1
    simp only [Int.reduceAdd] at this
    rw [f _ 0 (by unfold Sw3 Sct; omega)]
    omega
  · rw [f 87 l (by unfold Sw3 Sct; omega)]
    exact (hN.2.2.2.1 l l1 l2).2
  · rw [f 86 2 (by unfold Sw3 Sct; omega)]
    exact hN.2.2.1.2
theorem aA_go {p : Int} (hC : Cy 5 h m0) (hy : ∀ x h', goP 5 h p x h' → Q x h') : qC tFA (d + 7) k_c_go [1, p] h Q := by
  obtain ⟨⟨-, p7⟩, ⟨-, p6⟩⟩ := hC.past
  refine qC_intro (TA_c_go_0 _ _ _ _ _ _ (pA_findsWay hC.1.1 hC.2 (fun h1 f1 hno => ⟨fun c => absurd rfl c, fun _ => hy _ _ (Or.inl ⟨hno, rfl, f1⟩)⟩) (fun h1 f1 hp hf hW => ⟨fun _ => pA_keepForUndo ?_ ?_ (fun h2 hk => ?_), fun c => absurd (by omega) c⟩)))
  · rw [f1 1 6 (by unfold Sw3 Sct; omega)]; exact p6
  · rw [f1 1 7 (by unfold Sw3 Sct; omega)]; exact p7
  · have kf := kept_fr (by rw [f1 1 6 (by unfold Sw3 Sct; omega)]; exact p6) hk
    have k' : ∀ k i, ¬ ((102 ≤ k ∧ k ≤ 281) ∨ (k = 1 ∧ (i = 6 ∨ i = 7))) → h2 k i = h1 k i := kf
    refine pA_goes hC hp.1 hp.2 hf ⟨?_, ?_, fun k hk' => ?_, fun l l1 l2 => ?_⟩ ((f1.mono (fun _ _ q => Or.inl q)).tr (kf.mono (fun k i q => Or.inr (by omega)))) (hy _ _ (Or.inr ⟨⟨hp, hf⟩, ?_, h1, h2, f1, hk, rfl⟩))
    · rw [k' 96 4 (by omega)]; exact hW.1
    · rw [k' 96 5 (by omega)]; exact hW.2.1
    · rw [k' 99 _ (by omega)]; exact hW.2.2.1 k hk'
    · rw [k' 98 _ (by omega)]; exact hW.2.2.2 l l1 l2
    · rw [turnH_fr p _ 96 4 (by omega), goN_fr _ _ _ _ _ _ 96 4 (by unfold SwK; omega), k' 96 4 (by omega)]
      exact hW.1
theorem pA_draw (s1 : 0 ≤ h 1 8) (s2 : h 1 8 < 2147483648) (hy : Q (lcg (h 1 8) / 64 % 100) (mmS h 1 8 (lcg (h 1 8)))) : qC tFA (d + 1) k_c_draw [1, 100] h Q := by
  have l := lcg_ok (h 1 8)
  refine qC_intro (TA_c_draw_0 _ _ _ _ _ _ ⟨fun c => absurd c (by omega), fun _ => mmD_of (by omega) ?_⟩)
  have e : mAnd (mAdd (mMul 1103515245 (h 1 8)) 12345) 2147483647 = lcg (h 1 8) := mLcg _ _ _
  rw [e, mShr6 l.1 l.2, mRem_nn (by omega) (by omega) (by omega) (by omega)]
  exact hy
theorem pA_letRain (n1 : 0 ≤ h 5 1 ∧ h 5 1 ≤ 10) (ho : ∀ l, 0 ≤ l → l < h 5 1 → 0 ≤ h (10 + l) 0 ∧ h (10 + l) 0 < 5) (hy : Q 0 (rainH 5 h (h 5 1).toNat)) : qC tFA (d + 2) k_c_letRain [1] h Q := by
  refine qC_intro (TA_c_letRain_0 _ _ _ _ _ (pA_leaks n1.1 n1.2 ?_))
  have key : ∀ (j k : Nat), (k : Int) + j = h 5 1 → qB tFA (d + 1) k_c_letRain (h 0 0) (h 0 1) Q 1 [(3, 1), (1, setOf (h 5 1) (fun l => decide (h 87 l < 3))), (1, (k : Int))] [] (rainH 5 h k) := by
    intro j
    induction j with
    | zero =>
      intro k hk
      have f := rainH_fr 5 h k
      refine TA_c_letRain_1 _ _ _ _ _ _ _ ⟨fun _ => ?_, fun c => absurd (by rw [f 5 1 (by omega)]; omega) c⟩
      rw [show (h 5 1).toNat = k by omega] at hy
      exact hy
    | succ j ih =>
      intro k hk
      have f := rainH_fr 5 h k
      have ihk := ih (k + 1) (by omega)
      rw [show (((k + 1 : Nat)) : Int) = (k : Int) + 1 by omega] at ihk
      unfold rainH at ihk
      have eo : rainH 5 h k (10 + (k : Int)) 0 = h (10 + (k : Int)) 0 := f _ 0 (by omega)
      have ok := ho k (by omega) (by omega)
      refine TA_c_letRain_1 _ _ _ _ _ _ _ ⟨fun c => absurd c (by rw [f 5 1 (by omega)]; omega), fun _ => ?_⟩
      rw [mAdd_ok (a := (k : Int)) (by omega) (by omega), Ne, bit_is (by omega) (by omega), setOf_tb n1.1 (by omega) (by omega) (by omega), decide_eq_true (show (k : Int) < h 5 1 by omega), Bool.true_and, decide_eq_true_iff]
      simp only [Int.reduceAdd] at ihk
      refine ⟨fun c => ?_, fun c => ?_⟩
      · rw [if_neg c] at ihk; exact ihk
      · rw [if_pos (Decidable.of_not_not c)] at ihk
        simp (disch := omega) only [mmD_iff, mmG_iff, Bool.and_eq_true, Bool.or_eq_true, Nat.beq_refl, true_and, and_true, Option.getD_none, Option.isNone_none, decide_eq_true_eq, lc_lt0, lc_gt0, lc_le0, lc_ge0, lc_eq0, lc_ne0, ite_true, ite_false, fc_tFA_9, fn_tFA_9, fc_tFB_9, fn_tFB_9, sh_9, wn_9, fc_tFA_50, fn_tFA_50, fc_tFB_50, fn_tFB_50, sh_50, wn_50, fc_tFA_20, fn_tFA_20, fc_tFB_20, fn_tFB_20, sh_20, wn_20, fc_tFA_61, fn_tFA_61, fc_tFB_61, fn_tFB_61, sh_61, wn_61, fc_tFA_27, fn_tFA_27, fc_tFB_27, fn_tFB_27, sh_27, wn_27, fc_tFA_68, fn_tFA_68, fc_tFB_68, fn_tFB_68, sh_68, wn_68, fc_tFA_91, fn_tFA_91, fc_tFB_91, fn_tFB_91, sh_91, wn_91]
        rw [eo]
        exact ⟨by omega, by omega, by omega, by omega, ihk⟩
  exact key (h 5 1).toNat 0 (by omega)
theorem aA_night (hC : Cy 5 h m0) (hy : ∀ x h', nightP 5 h x h' → Q x h') : qC tFA (d + 7) k_c_night [1] h Q := by
  obtain ⟨⟨-, p7⟩, ⟨-, p6⟩⟩ := hC.past
  have n3 := hC.1.1.1.2.1.2.2.1
  refine qC_intro (TA_c_night_0 _ _ _ _ _ ⟨fun c => pA_keepForUndo p6 p7 (fun h1 hkp => ?_), fun c => hy _ _ (Or.inl ⟨c, rfl, rfl⟩)⟩)
  have kf := kept_fr p6 hkp
  obtain ⟨m1, hC1⟩ := kept_C (by decide : (5 : Int) = 5 ∨ (5 : Int) = 46) hkp hC
  have key : ∀ (j k : Nat) (s : Int) (g m : mmH), (k : Int) + j = h 5 3 → 0 ≤ s → s ≤ 10 * k → Cy 5 g m → g 5 3 = h 5 3 → (∀ g2 s2, nigR 5 j k g s g2 s2 → nigR 5 (h 5 3).toNat 0 h1 0 g2 s2) → qB tFA (d + 6) k_c_night (h 0 0) (h 0 1) Q 2 [(3, 1), (1, s), (1, (k : Int))] [] g := by
    intro j
    induction j with
    | zero =>
      intro k s g m hk s0 s1 hG e3 hr
      have hn := hr g s ⟨rfl, rfl⟩
      have hsd := hG.1.2.2.2.1
      have hB := Nw_B hG.2
      have g1 := hG.1.1.1.2.1.2.1
      have lc := lcg_ok (g 1 8)
      have fin : ∀ g3, weathH 5 g = g3 → 0 ≤ g3 86 0 ∧ g3 86 0 ≤ 999 → Q s (mmS g3 86 0 (mAdd (g3 86 0) 1)) := fun g3 e b => by
        rw [mAdd_ok (by omega) (by omega)]
        exact hy _ _ (Or.inr ⟨c, h1, g, hkp, hn, by rw [e]⟩)
      refine TA_c_night_2 _ _ _ _ _ _ _ ⟨fun _ => pA_draw hsd.2.1 hsd.2.2 ⟨fun c2 => fin _ ?_ ?_, fun c2 => pA_letRain ?_ (fun l l1 l2 => ?_) (fin _ ?_ ?_)⟩, fun c => absurd (by omega) c⟩
      · rw [mmS_cell (by omega)] at c2
        unfold weathH; rw [if_neg (by omega)]
      · rw [mmS_cell (by omega)]; exact hB.1
      · rw [mmS_cell (by omega)]; exact g1
      · rw [mmS_cell (by omega)] at l2 ⊢
        have := (hG.1.1.2.1 l l1 l2).1
        have n0 := hG.1.1.1.2.1.1
        simp only [Int.reduceAdd] at this
        omega
      · rw [mmS_cell (by omega)] at c2 ⊢
        unfold weathH; rw [if_pos (by omega)]
      · rw [rainH_fr _ _ _ 86 0 (by omega), mmS_cell (by omega)]; exact hB.1
    | succ j ih =>
      intro k s g m hk s0 s1 hG e3 hr
      have g1 := hG.1.1.1.2.1.2.1
      have step : ∀ x g', walkP 5 g k x g' → qB tFA (d + 6) k_c_night (h 0 0) (h 0 1) Q 2 [(3, 1), (1, s + x), (1, mAdd (k : Int) 1)] [] g' := by
        intro x g' hw
        obtain ⟨m', hG'⟩ := walk_C (by decide : (5 : Int) = 5 ∨ (5 : Int) = 46) hG (by omega) (by omega) hw
        have wx := walk_x hG.2 g1 (by omega) (by omega) hw
        have wf : g' 5 3 = g 5 3 := walk_fr hw 5 3 (by unfold Sw3 Sct SwK; omega)
        have := ih (k + 1) (s + x) g' m' (by omega) (by omega) (by omega) hG' (by rw [wf, e3]) (fun g2 s2 q => hr g2 s2 ⟨x, g', hw, by rw [show (k : Int) + 1 = ((k + 1 : Nat) : Int) by omega]; exact q⟩)
        rw [mAdd_ok (by omega) (by omega), show (k : Int) + 1 = ((k + 1 : Nat) : Int) by omega]
        exact this
      refine TA_c_night_2 _ _ _ _ _ _ _ ⟨fun c => absurd c (by omega), fun _ => pA_findsWay hG.1.1 hG.2 (fun h3 f3 hno => ⟨fun _ => ?_, fun c => absurd rfl c⟩) (fun h3 f3 hp hf hW => ⟨fun c => absurd c (by omega), fun _ => pA_goes hG hp.1 hp.2 hf hW (f3.mono (fun _ _ q => Or.inl q)) ?_⟩)⟩
      · have := step 0 h3 (Or.inl ⟨Classical.byContradiction fun q => hno ⟨⟨by omega, by omega⟩, q⟩, rfl, f3⟩)
        rw [Int.add_zero] at this
        exact this
      · have st := pP_steps hG.2 g1 hp.1 hp.2 hf
        have hw : walkP 5 g k (cntN 5 k (wP 5 g k) (fun i => pP 5 g k (i + 1)) h3 (dP 5 g k (g 88 k)).2.toNat) (turnH k (goN 5 k (wP 5 g k) (fun i => pP 5 g k (i + 1)) h3 (dP 5 g k (g 88 k)).2.toNat)) :=
          Or.inr ⟨hf, h3, wP 5 g k, fun i => pP 5 g k (i + 1), (dP 5 g k (g 88 k)).2.toNat, f3, fun _ _ _ => rfl, fun _ _ => rfl, by omega, rfl, rfl⟩
        have wx := walk_x hG.2 g1 hp.1 hp.2 hw
        rw [mAdd_ok (a := s) (by omega) (by omega)]
        exact step _ _ hw
  exact key (h 5 3).toNat 0 0 h1 m1 (by omega) (by omega) (by omega) hC1 (kf 5 3 (by omega)) (fun g2 s2 q => q)
end GOA
section GOB
variable {d : Nat} {h m0 : mmH} {Q : Int → mmH → Prop}
theorem pB_goes {p : Int} {h2 : mmH} (hC : Cy 46 h m0) (p1 : 0 ≤ p) (p2 : p < h 46 3) (hf : dP 46 h p (h 88 p) ≠ wFar) (hW : wayP 46 h p h2) (hF : Fr (fun k i => Sw3 46 k i ∨ (102 ≤ k ∧ k ≤ 281) ∨ k = 1) h h2)
    (hy : Q (cntN 46 p (wP 46 h p) (fun k => pP 46 h p (k + 1)) h2 (dP 46 h p (h 88 p)).2.toNat) (turnH p (goN 46 p (wP 46 h p) (fun k => pP 46 h p (k + 1)) h2 (dP 46 h p (h 88 p)).2.toNat))) : qC tFB (d + 3) k_c_goFoundWay [1, p] h2 Q := by
  have f : ∀ k i, ¬ (Sw3 46 k i ∨ (102 ≤ k ∧ k ≤ 281) ∨ k = 1) → h2 k i = h k i := hF
  have n0 := hC.1.1.1.2.1.1
  have n1 := hC.1.1.1.2.1.2.1
  have n3 := hC.1.1.1.2.1.2.2.1
  have n4 := hC.1.1.1.2.2.1
  have hN := hC.2
  have st := pP_steps hN n1 p1 p2 hf
  refine pB_goFoundWay (n := h 46 1) p1 (by omega) st.2.2.1 (by omega) n1.2 hW.2.1 (fun k hk => ?_) hW.2.2.2 (by rw [f 46 4 (by unfold Sw3 Sct; omega)]; exact n4.1) (by rw [f 46 4 (by unfold Sw3 Sct; omega)]; exact n4.2) (fun l l1 l2 => ?_) ⟨fun l l1 l2 => ?_, ?_⟩ hy
  · have := pP_ok hN n1 p1 p2 hf (k + 1) (by omega)
    exact ⟨hW.2.2.1 k hk, this.1, this.2.1⟩
  · have := (hC.1.1.2.1 l l1 l2).1
    simp only [Int.reduceAdd] at this
    rw [f _ 0 (by unfold Sw3 Sct; omega)]
    omega
  · rw [f 87 l (by unfold Sw3 Sct; omega)]
    exact (hN.2.2.2.1 l l1 l2).2
  · rw [f 86 2 (by unfold Sw3 Sct; omega)]
    exact hN.2.2.1.2
theorem aB_go {p : Int} (hC : Cy 46 h m0) (hy : ∀ x h', goP 46 h p x h' → Q x h') : qC tFB (d + 7) k_c_go [1, p] h Q := by
  obtain ⟨⟨-, p7⟩, ⟨-, p6⟩⟩ := hC.past
  refine qC_intro (TB_c_go_0 _ _ _ _ _ _ (pB_findsWay hC.1.1 hC.2 (fun h1 f1 hno => ⟨fun c => absurd rfl c, fun _ => hy _ _ (Or.inl ⟨hno, rfl, f1⟩)⟩) (fun h1 f1 hp hf hW => ⟨fun _ => pB_keepForUndo ?_ ?_ (fun h2 hk => ?_), fun c => absurd (by omega) c⟩)))
  · rw [f1 1 6 (by unfold Sw3 Sct; omega)]; exact p6
  · rw [f1 1 7 (by unfold Sw3 Sct; omega)]; exact p7
  · have kf := kept_fr (by rw [f1 1 6 (by unfold Sw3 Sct; omega)]; exact p6) hk
    have k' : ∀ k i, ¬ ((102 ≤ k ∧ k ≤ 281) ∨ (k = 1 ∧ (i = 6 ∨ i = 7))) → h2 k i = h1 k i := kf
    refine pB_goes hC hp.1 hp.2 hf ⟨?_, ?_, fun k hk' => ?_, fun l l1 l2 => ?_⟩ ((f1.mono (fun _ _ q => Or.inl q)).tr (kf.mono (fun k i q => Or.inr (by omega)))) (hy _ _ (Or.inr ⟨⟨hp, hf⟩, ?_, h1, h2, f1, hk, rfl⟩))
    · rw [k' 96 4 (by omega)]; exact hW.1
    · rw [k' 96 5 (by omega)]; exact hW.2.1
    · rw [k' 99 _ (by omega)]; exact hW.2.2.1 k hk'
    · rw [k' 98 _ (by omega)]; exact hW.2.2.2 l l1 l2
    · rw [turnH_fr p _ 96 4 (by omega), goN_fr _ _ _ _ _ _ 96 4 (by unfold SwK; omega), k' 96 4 (by omega)]
      exact hW.1
theorem pB_draw (s1 : 0 ≤ h 1 8) (s2 : h 1 8 < 2147483648) (hy : Q (lcg (h 1 8) / 64 % 100) (mmS h 1 8 (lcg (h 1 8)))) : qC tFB (d + 1) k_c_draw [1, 100] h Q := by
  have l := lcg_ok (h 1 8)
  refine qC_intro (TB_c_draw_0 _ _ _ _ _ _ ⟨fun c => absurd c (by omega), fun _ => mmD_of (by omega) ?_⟩)
  have e : mAnd (mAdd (mMul 1103515245 (h 1 8)) 12345) 2147483647 = lcg (h 1 8) := mLcg _ _ _
  rw [e, mShr6 l.1 l.2, mRem_nn (by omega) (by omega) (by omega) (by omega)]
  exact hy
theorem pB_letRain (n1 : 0 ≤ h 46 1 ∧ h 46 1 ≤ 10) (ho : ∀ l, 0 ≤ l → l < h 46 1 → 0 ≤ h (51 + l) 0 ∧ h (51 + l) 0 < 5) (hy : Q 0 (rainH 46 h (h 46 1).toNat)) : qC tFB (d + 2) k_c_letRain [1] h Q := by
  refine qC_intro (TB_c_letRain_0 _ _ _ _ _ (pB_leaks n1.1 n1.2 ?_))
  have key : ∀ (j k : Nat), (k : Int) + j = h 46 1 → qB tFB (d + 1) k_c_letRain (h 0 0) (h 0 1) Q 1 [(3, 1), (1, setOf (h 46 1) (fun l => decide (h 87 l < 3))), (1, (k : Int))] [] (rainH 46 h k) := by
    intro j
    induction j with
    | zero =>
      intro k hk
      have f := rainH_fr 46 h k
      refine TB_c_letRain_1 _ _ _ _ _ _ _ ⟨fun _ => ?_, fun c => absurd (by rw [f 46 1 (by omega)]; omega) c⟩
      rw [show (h 46 1).toNat = k by omega] at hy
      exact hy
    | succ j ih =>
      intro k hk
      have f := rainH_fr 46 h k
      have ihk := ih (k + 1) (by omega)
      rw [show (((k + 1 : Nat)) : Int) = (k : Int) + 1 by omega] at ihk
      unfold rainH at ihk
      have eo : rainH 46 h k (51 + (k : Int)) 0 = h (51 + (k : Int)) 0 := f _ 0 (by omega)
      have ok := ho k (by omega) (by omega)
      refine TB_c_letRain_1 _ _ _ _ _ _ _ ⟨fun c => absurd c (by rw [f 46 1 (by omega)]; omega), fun _ => ?_⟩
      rw [mAdd_ok (a := (k : Int)) (by omega) (by omega), Ne, bit_is (by omega) (by omega), setOf_tb n1.1 (by omega) (by omega) (by omega), decide_eq_true (show (k : Int) < h 46 1 by omega), Bool.true_and, decide_eq_true_iff]
      simp only [Int.reduceAdd] at ihk
      refine ⟨fun c => ?_, fun c => ?_⟩
      · rw [if_neg c] at ihk; exact ihk
      · rw [if_pos (Decidable.of_not_not c)] at ihk
        simp (disch := omega) only [mmD_iff, mmG_iff, Bool.and_eq_true, Bool.or_eq_true, Nat.beq_refl, true_and, and_true, Option.getD_none, Option.isNone_none, decide_eq_true_eq, lc_lt0, lc_gt0, lc_le0, lc_ge0, lc_eq0, lc_ne0, ite_true, ite_false, fc_tFA_9, fn_tFA_9, fc_tFB_9, fn_tFB_9, sh_9, wn_9, fc_tFA_50, fn_tFA_50, fc_tFB_50, fn_tFB_50, sh_50, wn_50, fc_tFA_20, fn_tFA_20, fc_tFB_20, fn_tFB_20, sh_20, wn_20, fc_tFA_61, fn_tFA_61, fc_tFB_61, fn_tFB_61, sh_61, wn_61, fc_tFA_27, fn_tFA_27, fc_tFB_27, fn_tFB_27, sh_27, wn_27, fc_tFA_68, fn_tFA_68, fc_tFB_68, fn_tFB_68, sh_68, wn_68, fc_tFA_91, fn_tFA_91, fc_tFB_91, fn_tFB_91, sh_91, wn_91]
        rw [eo]
        exact ⟨by omega, by omega, by omega, by omega, ihk⟩
  exact key (h 46 1).toNat 0 (by omega)
theorem aB_night (hC : Cy 46 h m0) (hy : ∀ x h', nightP 46 h x h' → Q x h') : qC tFB (d + 7) k_c_night [1] h Q := by
  obtain ⟨⟨-, p7⟩, ⟨-, p6⟩⟩ := hC.past
  have n3 := hC.1.1.1.2.1.2.2.1
  refine qC_intro (TB_c_night_0 _ _ _ _ _ ⟨fun c => pB_keepForUndo p6 p7 (fun h1 hkp => ?_), fun c => hy _ _ (Or.inl ⟨c, rfl, rfl⟩)⟩)
  have kf := kept_fr p6 hkp
  obtain ⟨m1, hC1⟩ := kept_C (by decide : (46 : Int) = 5 ∨ (46 : Int) = 46) hkp hC
  have key : ∀ (j k : Nat) (s : Int) (g m : mmH), (k : Int) + j = h 46 3 → 0 ≤ s → s ≤ 10 * k → Cy 46 g m → g 46 3 = h 46 3 → (∀ g2 s2, nigR 46 j k g s g2 s2 → nigR 46 (h 46 3).toNat 0 h1 0 g2 s2) → qB tFB (d + 6) k_c_night (h 0 0) (h 0 1) Q 2 [(3, 1), (1, s), (1, (k : Int))] [] g := by
    intro j
    induction j with
    | zero =>
      intro k s g m hk s0 s1 hG e3 hr
      have hn := hr g s ⟨rfl, rfl⟩
      have hsd := hG.1.2.2.2.1
      have hB := Nw_B hG.2
      have g1 := hG.1.1.1.2.1.2.1
      have lc := lcg_ok (g 1 8)
      have fin : ∀ g3, weathH 46 g = g3 → 0 ≤ g3 86 0 ∧ g3 86 0 ≤ 999 → Q s (mmS g3 86 0 (mAdd (g3 86 0) 1)) := fun g3 e b => by
        rw [mAdd_ok (by omega) (by omega)]
        exact hy _ _ (Or.inr ⟨c, h1, g, hkp, hn, by rw [e]⟩)
      refine TB_c_night_2 _ _ _ _ _ _ _ ⟨fun _ => pB_draw hsd.2.1 hsd.2.2 ⟨fun c2 => fin _ ?_ ?_, fun c2 => pB_letRain ?_ (fun l l1 l2 => ?_) (fin _ ?_ ?_)⟩, fun c => absurd (by omega) c⟩
      · rw [mmS_cell (by omega)] at c2
        unfold weathH; rw [if_neg (by omega)]
      · rw [mmS_cell (by omega)]; exact hB.1
      · rw [mmS_cell (by omega)]; exact g1
      · rw [mmS_cell (by omega)] at l2 ⊢
        have := (hG.1.1.2.1 l l1 l2).1
        have n0 := hG.1.1.1.2.1.1
        simp only [Int.reduceAdd] at this
        omega
      · rw [mmS_cell (by omega)] at c2 ⊢
        unfold weathH; rw [if_pos (by omega)]
      · rw [rainH_fr _ _ _ 86 0 (by omega), mmS_cell (by omega)]; exact hB.1
    | succ j ih =>
      intro k s g m hk s0 s1 hG e3 hr
      have g1 := hG.1.1.1.2.1.2.1
      have step : ∀ x g', walkP 46 g k x g' → qB tFB (d + 6) k_c_night (h 0 0) (h 0 1) Q 2 [(3, 1), (1, s + x), (1, mAdd (k : Int) 1)] [] g' := by
        intro x g' hw
        obtain ⟨m', hG'⟩ := walk_C (by decide : (46 : Int) = 5 ∨ (46 : Int) = 46) hG (by omega) (by omega) hw
        have wx := walk_x hG.2 g1 (by omega) (by omega) hw
        have wf : g' 46 3 = g 46 3 := walk_fr hw 46 3 (by unfold Sw3 Sct SwK; omega)
        have := ih (k + 1) (s + x) g' m' (by omega) (by omega) (by omega) hG' (by rw [wf, e3]) (fun g2 s2 q => hr g2 s2 ⟨x, g', hw, by rw [show (k : Int) + 1 = ((k + 1 : Nat) : Int) by omega]; exact q⟩)
        rw [mAdd_ok (by omega) (by omega), show (k : Int) + 1 = ((k + 1 : Nat) : Int) by omega]
        exact this
      refine TB_c_night_2 _ _ _ _ _ _ _ ⟨fun c => absurd c (by omega), fun _ => pB_findsWay hG.1.1 hG.2 (fun h3 f3 hno => ⟨fun _ => ?_, fun c => absurd rfl c⟩) (fun h3 f3 hp hf hW => ⟨fun c => absurd c (by omega), fun _ => pB_goes hG hp.1 hp.2 hf hW (f3.mono (fun _ _ q => Or.inl q)) ?_⟩)⟩
      · have := step 0 h3 (Or.inl ⟨Classical.byContradiction fun q => hno ⟨⟨by omega, by omega⟩, q⟩, rfl, f3⟩)
        rw [Int.add_zero] at this
        exact this
      · have st := pP_steps hG.2 g1 hp.1 hp.2 hf
        have hw : walkP 46 g k (cntN 46 k (wP 46 g k) (fun i => pP 46 g k (i + 1)) h3 (dP 46 g k (g 88 k)).2.toNat) (turnH k (goN 46 k (wP 46 g k) (fun i => pP 46 g k (i + 1)) h3 (dP 46 g k (g 88 k)).2.toNat)) :=
          Or.inr ⟨hf, h3, wP 46 g k, fun i => pP 46 g k (i + 1), (dP 46 g k (g 88 k)).2.toNat, f3, fun _ _ _ => rfl, fun _ _ => rfl, by omega, rfl, rfl⟩
        have wx := walk_x hG.2 g1 hp.1 hp.2 hw
        rw [mAdd_ok (a := s) (by omega) (by omega)]
        exact step _ _ hw
  exact key (h 46 3).toNat 0 0 h1 m1 (by omega) (by omega) (by omega) hC1 (kf 46 3 (by omega)) (fun g2 s2 q => q)
end GOB
section GM
variable {d : Nat} {u : Int} {g g' h : mmH} {Q : Int → mmH → Prop}
theorem b_go {p x : Int} (hu : u = 5 ∨ u = 46) (hC : Cy u g h) (hp : goP u g p x g') (hy : ∀ h', Fr (fun k _ => 282 ≤ k) h h' → Cy u g' h' → Q x h') : qC tFM (d + 8) k_m_go [282, p] h Q := by
  obtain ⟨m0, m1, m2, m3, m4⟩ := hC.many
  have n1 := hC.1.1.1.2.1.2.1
  have n3 := hC.1.1.1.2.1.2.2.1
  have smw : ∀ k i, Smw k i → 282 ≤ k := fun k i q => by unfold Smw Smc Smt Spm at q; omega
  have out : ∀ h1, Fr Smw h h1 → ¬ wayIs u g p → Q (-1) h1 := by
    intro h1 f1 c
    rcases hp with ⟨-, rfl, fg⟩ | ⟨q, -⟩
    · exact hy _ (f1.mono smw) (Cy_Sw3 hu fg f1 hC)
    · exact absurd q c
  refine qC_intro (T_m_go_0 _ _ _ _ _ _ (q_m_isPerson (by omega) (by omega) (fun y hyy => ⟨fun c => out h Fr.rf (fun q => hyy.neg c (by rw [m2]; exact q.1)), fun c => ?_⟩)))
  have hpp := hyy.pos c
  rw [m2] at hpp
  obtain ⟨p1, p2⟩ := hpp
  refine q_m_hasWay hu hC.1.1 hC.2 p1 p2 (fun h1 f1 hW z hz => ⟨fun c2 => q_m_placeOf p1 (by omega) ?_, fun c2 => out h1 f1 (fun q => hz.neg (Decidable.of_not_not c2) q.2)⟩)
  have hf := hz.pos c2
  rcases hp with ⟨q, -⟩ | ⟨-, rfl, g1, g2, fg, hk, rfl⟩
  · exact absurd ⟨⟨p1, p2⟩, hf⟩ q
  have at1 := Nw_at hC.2 p1 p2
  have e12 : h1 329 (12 + 2 * p) = g 88 p := by rw [f1 329 _ (by unfold Smw Smc Smt Spm; omega)]; exact at1.2.2.2.1
  rw [e12]
  refine mmD_of (by omega) (b_keeps hu (Cy_Sw3 hu fg f1 hC) hk (fun h2 f2 hC2 hm => ?_))
  have p6 := (Cy_Sw3 hu fg f1 hC).past.2.2
  have kf := kept_fr p6 hk
  have FF : Fr (fun k i => Sw3 u k i ∨ (102 ≤ k ∧ k ≤ 281) ∨ k = 1) g g2 := (fg.mono (fun _ _ q => Or.inl q)).tr (kf.mono (fun k i q => Or.inr (by omega)))
  obtain ⟨s1, s2, s3, s4, s5⟩ := way_same hu hC.2 n1 n3.2 p1 p2 FF
  have st := pP_steps hC.2 n1 p1 p2 hf
  refine q_m_walks hu hC2 p1 (by rw [FF u 3 (by unfold Sw3 Sct; omega)]; exact p2) (Or.inr ⟨by rw [s1, s2]; exact hf, g2, wP u g p, fun k => pP u g p (k + 1), (dP u g p (g 88 p)).2.toNat, Fr.rf, fun l l1 l2 => (s4 l l1 (by rw [← s3]; exact l2)).symm, fun k hk => (s5 hf (k + 1) (by omega)).symm, by rw [s1, s2]; omega, rfl, rfl⟩) (fun h3 f3 hC3 => ?_)
  rw [(hW.1 _ at1.1.1 at1.1.2).1]
  exact hy h3 (((f1.mono smw).tr f2).tr f3) hC3
theorem b_night {x : Int} (hu : u = 5 ∨ u = 46) (hC : Cy u g h) (hp : nightP u g x g') (hy : ∀ h', Fr (fun k _ => 282 ≤ k) h h' → Cy u g' h' → Q x h') : qC tFM (d + 8) k_m_night [282] h Q := by
  have n3 := hC.1.1.1.2.1.2.2.1
  have hn := hC.2.1
  refine qC_intro (T_m_night_0 _ _ _ _ _ ⟨fun c => ?_, fun c => ?_⟩)
  · rcases hp with ⟨q, -⟩ | ⟨c1, g1, g2, hk, hr, rfl⟩
    · omega
    · refine b_keeps hu hC hk (fun h1 f1 hC1 hm => ?_)
      have kf := kept_fr hC.past.2.2 hk
      have key : ∀ (j k : Nat) (s : Int) (G H : mmH), (k : Int) + j = g u 3 → 0 ≤ s → s ≤ 10 * k → Cy u G H → G u 3 = g u 3 → Fr (fun k _ => 282 ≤ k) h H → G 86 0 < 999 → nigR u j k G s g2 x → qB tFM (d + 7) k_m_night (h 0 0) (h 0 1) Q 2 [(3, 282), (1, s), (1, (k : Int)), (0, 0)] [] H := by
        intro j
        induction j with
        | zero =>
          intro k s G H hk2 s0 s1 hG e3 fH gn hr2
          obtain ⟨rfl, rfl⟩ := hr2
          have hsd := hG.1.2.2.2.1
          have hB := Nw_B hG.2
          have g1' := hG.1.1.1.2.1.2.1
          have g0' := hG.1.1.1.2.1.1
          have lc := lcg_ok (g2 1 8)
          have rn := hG.1.1.1.2.2.2.2.1
          refine T_m_night_2 _ _ _ _ _ _ _ (q_m_personMany ⟨fun _ => q_m_drawOf (by rw [hsd.1]; exact hsd.2.1) (by rw [hsd.1]; exact hsd.2.2) ?_, fun c => absurd (by rw [hG.many.2.2.1]; omega) c⟩)
          rw [hsd.1, mmS_cell (by omega), rn]
          have hG3 := Cy_seed (v := lcg (g2 1 8)) hu lc.1 lc.2 hG
          have fH3 : Fr (fun k _ => 282 ≤ k) h (mmS H 282 69 (lcg (g2 1 8))) := fH.put (by omega)
          generalize hH3 : mmS H 282 69 (lcg (g2 1 8)) = H3 at hG3 fH3 ⊢
          have fin : ∀ H4, Fr (fun k _ => 282 ≤ k) h H4 → Cy u (weathH u g2) H4 → weathH u g2 86 0 = g2 86 0 → Q x (mmS H4 329 0 (mAdd (H4 329 0) 1)) := fun H4 f4 C4 e4 => by
            have h0 := C4.2.1
            rw [h0.1, mAdd_ok (by omega) (by omega)]
            exact hy _ (f4.put (by omega)) (Cy_nite hu (by omega) (by omega) C4)
          refine ⟨fun c2 => ?_, fun c2 => ?_⟩
          · have ew : weathH u g2 = mmS g2 1 8 (lcg (g2 1 8)) := by unfold weathH; rw [if_neg (by omega)]
            have l6 : ∀ (j : Nat) (i : Int), i + j = g2 u 1 → 0 ≤ i → qB tFM (d + 7) k_m_night (h 0 0) (h 0 1) Q 6 [(3, 282), (1, x), (1, 0), (1, i)] [] H3 := by
              intro j
              induction j with
              | zero =>
                intro i hi i0
                refine T_m_night_6 _ _ _ _ _ _ _ _ (q_m_lotMany ⟨fun _ => fin H3 fH3 (by rw [ew]; exact hG3) (by rw [ew, mmS_cell (by omega)]), fun c => absurd (by rw [hG3.many.2.1, mmS_cell (by omega)]; omega) c⟩)
              | succ j ih =>
                intro i hi i0
                refine T_m_night_6 _ _ _ _ _ _ _ _ (q_m_lotMany ⟨fun c => absurd c (by rw [hG3.many.2.1, mmS_cell (by omega)]; omega), fun _ => ⟨fun _ => ?_, fun c => absurd rfl c⟩⟩)
                rw [mAdd_ok (by omega) (by omega)]
                exact ih (i + 1) (by omega) (by omega)
            exact l6 (g2 u 1).toNat 0 (by omega) (by omega)
          · have ew : weathH u g2 = rainH u (mmS g2 1 8 (lcg (g2 1 8))) (g2 u 1).toNat := by unfold weathH; rw [if_pos (by omega)]
            have ek : ∀ k i, k ≠ 1 → mmS g2 1 8 (lcg (g2 1 8)) k i = g2 k i := fun k i q => mmS_cell q
            generalize hG4 : mmS g2 1 8 (lcg (g2 1 8)) = G4 at hG3 ew ek
            have l6 : ∀ (j i : Nat) (H4 : mmH), (i : Int) + j = g2 u 1 → Fr (fun k _ => 282 ≤ k) h H4 → Cy u (rainH u G4 i) H4 → qB tFM (d + 7) k_m_night (h 0 0) (h 0 1) Q 6 [(3, 282), (1, x), (1, 1), (1, (i : Int))] [] H4 := by
              intro j
              induction j with
              | zero =>
                intro i H4 hi f4 C4
                have e4 : weathH u g2 86 0 = g2 86 0 := by rw [ew, rainH_fr _ _ _ 86 0 (by omega), ek 86 0 (by omega)]
                refine T_m_night_6 _ _ _ _ _ _ _ _ (q_m_lotMany ⟨fun _ => fin H4 f4 (by rw [ew, show (g2 u 1).toNat = i by omega]; exact C4) e4, fun c => absurd (by rw [C4.many.2.1, rainH_fr _ _ _ u 1 (by omega), ek u 1 (by omega)]; omega) c⟩)
              | succ j ih =>
                intro i H4 hi f4 C4
                have fr := rainH_fr u G4 i
                have e1 : rainH u G4 i u 1 = g2 u 1 := by rw [fr u 1 (by omega), ek u 1 (by omega)]
                have ti := C4.2.2.2.2.1 (i : Int) (by omega) (by omega)
                simp only [Int.reduceAdd, Int.zero_add] at ti
                rw [fr 87 _ (by omega)] at ti
                have ow := (C4.1.1.2.1 (i : Int) (by omega) (by omega)).1
                simp only [Int.reduceMul, Int.mul_one] at ow
                have eo : rainH u G4 i (u + 5 + (i : Int)) 0 = G4 (u + 5 + (i : Int)) 0 := fr _ 0 (by omega)
                have e0 : rainH u G4 i u 0 = g2 u 0 := by rw [fr u 0 (by omega), ek u 0 (by omega)]
                rw [eo] at ow
                have pu := C4.2.2.2.2.2.2.1 _ ow.2.1 ow.2.2
                simp only [Int.reduceAdd, Int.zero_add] at pu
                refine T_m_night_6 _ _ _ _ _ _ _ _ (q_m_lotMany ⟨fun c => absurd c (by rw [C4.many.2.1, e1]; omega), fun _ => ⟨fun c => absurd c (by omega), fun _ => q_m_tilesOf (by omega) (by omega) ?_⟩⟩)
                rw [ti.1, mAdd_ok (a := (i : Int)) (by omega) (by omega), show (i : Int) + 1 = ((i + 1 : Nat) : Int) by omega]
                refine ⟨fun c3 => ih (i + 1) H4 (by omega) f4 ?_, fun c3 => q_m_ownerOf (by omega) (by omega) ?_⟩
                · show Cy u (if G4 87 (i : Int) < 3 then mmS (rainH u G4 i) 90 (G4 (u + 5 + (i : Int)) 0) (mSub (rainH u G4 i 90 (G4 (u + 5 + (i : Int)) 0)) 1) else rainH u G4 i) _
                  rw [if_neg (by omega)]; exact C4
                · rw [ow.1, mAdd_ok (a := 24) (by omega) (by omega), pu]
                  refine mmD_of (by omega) (mmD_of (by omega) (ih (i + 1) _ (by omega) (f4.put (by omega)) ?_))
                  show Cy u (if G4 87 (i : Int) < 3 then mmS (rainH u G4 i) 90 (G4 (u + 5 + (i : Int)) 0) (mSub (rainH u G4 i 90 (G4 (u + 5 + (i : Int)) 0)) 1) else rainH u G4 i) _
                  rw [if_pos (by omega)]
                  exact Cy_now hu (Fr.rf.put (by unfold SnC; omega)) (Fr.rf.put (Or.inl rfl)) (Nw_pay (o := G4 (u + 5 + (i : Int)) 0) hu ⟨by omega, by omega, by have := C4.1.1.1.2.1.2.2.1; omega⟩ (by omega) C4.2) C4
            exact l6 (g2 u 1).toNat 0 H3 (by omega) fH3 hG3
        | succ j ih =>
          intro k s G H hk2 s0 s1 hG e3 fH gn hr2
          obtain ⟨y, G1, hw, hr3⟩ := hr2
          have g1' := hG.1.1.1.2.1.2.1
          have wx := walk_x hG.2 g1' (by omega) (by omega) hw
          have wf := walk_fr hw
          refine T_m_night_2 _ _ _ _ _ _ _ (q_m_personMany ⟨fun c => absurd c (by rw [hG.many.2.2.1]; omega), fun _ => q_m_walks hu hG (by omega) (by omega) hw (fun H1 f1' hG1 => ?_)⟩)
          rw [mAdd_ok (a := s) (by omega) (by omega), mAdd_ok (a := (k : Int)) (by omega) (by omega), show (k : Int) + 1 = ((k + 1 : Nat) : Int) by omega]
          exact ih (k + 1) (s + y) G1 H1 (by omega) (by omega) (by omega) hG1 (by rw [wf u 3 (by unfold Sw3 Sct SwK; omega), e3]) (fH.tr f1') (by rw [wf 86 0 (by unfold Sw3 Sct SwK; omega)]; exact gn) (by rw [show (k : Int) + 1 = ((k + 1 : Nat) : Int) by omega] at hr3; exact hr3)
      exact key (g u 3).toNat 0 0 g1 h1 (by omega) (by omega) (by omega) hC1 (kf u 3 (by omega)) f1 (by rw [kf 86 0 (by omega)]; exact c1) hr
  · rcases hp with ⟨-, rfl, rfl⟩ | ⟨q, -⟩
    · exact hy _ Fr.rf hC
    · omega
end GM
