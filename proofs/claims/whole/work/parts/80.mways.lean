/-! ===== mm: ways on the reference's side ===== -/
noncomputable def tlS (h : mmH) (gone op l : Int) : Int := if tb gone l = true then 0 else if tb op l = true ∧ h 87 l = 0 then 1 else h 87 l
noncomputable def cnS (u : Int) (h : mmH) (p gone op ow l : Int) : Bool := decide (0 < tlS h gone op l ∧ tollC u h p l (tlS h gone op l) ≠ -1) && tb ow (h (u + 5 + l) 0)
def Smc (k i : Int) : Prop := Smt k i ∨ k = 330 ∨ k = 331
/-- the reference's steps, by what it has laid down -/
noncomputable def eM (u : Int) (g h : mmH) (p b1 b2 a b : Int) : Bool := (!decide ((a = b1 ∧ b = b2) ∨ (a = b2 ∧ b = b1)) && decide (h 330 b ≠ 0)) && nearS u g (g 86 1) p a b
def rsM (n : Int) (E : Int → Int → Bool) (w : Int → Int) (last : Int) (h : mmH) (V : wV) (h' : mmH) : Prop :=
  Fr (fun k _ => k = 332 ∨ k = 333) h h' ∧ (∀ x, 0 ≤ x → x < n → h' 332 x = (V x).1 ∧ h' 333 x = (V x).2) ∧ wInv n E w last V
section MW
variable {d : Nat} {g h : mmH} {Q : Int → mmH → Prop}
theorem q_m_isNear {u p a b : Int} (hT : Tn u 1 g h) (hN : h 329 1 = g 86 1 ∧ 0 ≤ g 86 1 ∧ g 86 1 ≤ 9) (p1 : 0 ≤ p) (p2 : p < g u 3) (a1 : 0 ≤ a) (a2 : a < g u 1) (b1 : 0 ≤ b) (b2 : b < g u 1) (hy : ∀ x, YN x (nearS u g (g 86 1) p a b = true) → Q x h) : qC tFM (d + 2) k_m_isNear [282, p, a, b] h Q := by
  obtain ⟨hn, hl, hp, hg, -, -⟩ := hT
  obtain ⟨-, ⟨n1, n2, n3, n4, n5⟩, -⟩ := hn
  have hla := hl a a1 a2
  have hlb := hl b b1 b2
  have hpp := hp p p1 p2
  have hpe1 := hpp.1 1 (by omega) (by omega)
  have hpe2 := hpp.1 2 (by omega) (by omega)
  have hga := hg a b a1 a2 b1 b2
  simp only [Int.mul_one] at hla hlb hpe1 hpe2 hga
  unfold nearS at hy
  simp only [decide_eq_true_eq] at hy
  refine qC_intro (T_m_isNear_0 _ _ _ _ _ _ _ _ ?_)
  simp only [mmD_iff]
  rw [mMul_ok (by omega) (by omega), mAdd_ok (a := 100) (by omega) (by omega), mAdd_ok (a := 100 + 10 * a) (by omega) (by omega), hga.1, mSub_ok (a := g (u + 23 + a) b + 1) (by omega) (by omega), show g (u + 23 + a) b + 1 - 1 = g (u + 23 + a) b by omega]
  refine ⟨by omega, fun c => hy _ (YN.no (by omega)), fun c => q_m_personOf p1 (by omega) (by omega) (by omega) ?_⟩
  rw [hpe1, hN.1, mSub_ok (by omega) (by omega)]
  refine ⟨fun c2 => hy _ (YN.no (by omega)), fun c2 => q_m_heightOf b1 (by omega) (q_m_heightOf a1 (by omega) (q_m_personOf p1 (by omega) (by omega) (by omega) ?_))⟩
  rw [hpe2, hla.2.1.1, hlb.2.1.1, mSub_ok (by omega) (by omega)]
  exact ⟨fun c3 => hy _ (YN.no (by omega)), fun c3 => hy _ (YN.yes (by omega))⟩
theorem l_m_comes {u p gone op ow : Int} (hu : u = 5 ∨ u = 46) (hT : Tn u 1 g h) (hN : Nw 86 329 0 u g h) (p1 : 0 ≤ p) (p2 : p < g u 3) 
    (hy : ∀ h', Fr Smc h h' → (∀ l, 0 ≤ l → l < g u 1 → h' 331 l = tollC u g p l (tlS g gone op l) ∧ h' 330 l = if cnS u g p gone op ow l = true then 1 else 0) → Q 0 h') :
    ∀ (m : Nat) (i : Int) (h' : mmH) (w6 : mmV), i + m = g u 1 → 0 ≤ i → Fr Smc h h' → (∀ l, 0 ≤ l → l < i → h' 331 l = tollC u g p l (tlS g gone op l) ∧ h' 330 l = if cnS u g p gone op ow l = true then 1 else 0) →
      qB tFM (d + 4) k_m_comes (h 0 0) (h 0 1) Q 1 [(3, 282), (1, p), (1, gone), (1, op), (1, ow), (1, i), w6] [] h'
  | 0, i, h', w6, hi, hi0, hF, hl => by
    have : i = g u 1 := by omega
    have h6 := hT.1.1.2.1
    simp only [Int.reduceMul, Int.reduceAdd] at h6
    refine T_m_comes_1 _ _ _ _ _ _ _ _ _ _ _ (q_m_lotMany ⟨fun _ => hy h' hF (fun l l1 l2 => hl l l1 (by omega)), fun c => absurd ?_ c⟩)
    rw [hF 313 6 (by unfold Smc Smt Spm; omega)]
    omega
  | m + 1, i, h', w6, hi, hi0, hF, hl => by
    have h6 := hT.1.1.2.1
    simp only [Int.reduceMul, Int.reduceAdd] at h6
    have n1 := hT.1.2.1.2.1
    have n3 := hT.1.2.1.2.2.1
    have hti := hN.2.2.2.1 i hi0 (by omega)
    have hn0 := hN.1
    have hn1 := hN.2.1
    have hlt := hT.2.1 i hi0 (by omega)
    simp only [Int.reduceAdd, Int.zero_add, Int.mul_one] at hti hn0 hn1 hlt
    have f : ∀ k j, ¬ Smc k j → h' k j = h k j := hF
    have hTm : Tn u 1 g h' := Tn_frM (fun k j q => f k j (by unfold TnM at q; unfold Smc Smt Spm; omega)) hT
    -- the rest, behind the tiles
    have rest : ∀ w, qB tFM (d + 4) k_m_comes (h 0 0) (h 0 1) Q 4 [(3, 282), (1, p), (1, gone), (1, op), (1, ow), (1, i), w] [(1, tlS g gone op i)] h' := by
      intro w
      have ht : 0 ≤ tlS g gone op i ∧ tlS g gone op i ≤ 30 := by unfold tlS; (repeat' split) <;> omega
      refine T_m_comes_4 _ _ _ _ _ _ _ _ _ _ _ _ (q_m_tollOf (u := u) hu hTm ?_ p1 p2 hi0 (by omega) ht.1 ht.2 (fun h1 f1 => ?_))
      · rw [f 329 0 (by unfold Smc Smt Spm; omega), f 329 1 (by unfold Smc Smt Spm; omega)]
        exact ⟨hn0, hn1.1⟩
      · skip
        have F1 : Fr Smc h h1 := hF.tr (f1.mono (fun _ _ q => Or.inl q))
        have g330 : ∀ j, h1 330 j = h' 330 j := fun j => f1 330 j (by unfold Smt Spm; omega)
        have g331 : ∀ j, h1 331 j = h' 331 j := fun j => f1 331 j (by unfold Smt Spm; omega)
        have fin : ∀ x : Int, x = (if cnS u g p gone op ow i = true then 1 else 0) → ∀ w, qB tFM (d + 4) k_m_comes (h 0 0) (h 0 1) Q 1 [(3, 282), (1, p), (1, gone), (1, op), (1, ow), (1, mAdd i 1), w] [] (mmS (mmS h1 331 i (tollC u g p i (tlS g gone op i))) 330 i x) := by
          intro x hx w
          rw [mAdd_ok (a := i) (by omega) (by omega)]
          refine l_m_comes hu hT hN p1 p2 hy m (i + 1) _ _ (by omega) (by omega) ((F1.put (Or.inr (Or.inr rfl))).put (Or.inr (Or.inl rfl))) (fun l l1 l2 => ?_)
          rw [mmS_cell (by omega), mmS_slot, mmS_slot, mmS_cell (by omega), g330, g331]
          by_cases el : l = i
          · subst el
            rw [if_pos rfl, if_pos rfl]
            exact ⟨rfl, hx⟩
          · rw [if_neg el, if_neg el]
            exact hl l l1 (by omega)
        simp only [mmD_iff]
        rw [mmS_self]
        refine ⟨by omega, fun c => ⟨by omega, fin 0 ?_ _⟩, fun c => ⟨by omega, fun c2 => ⟨by omega, fin 0 ?_ _⟩, fun c2 => q_m_ownerOf hi0 (by omega) ?_⟩⟩
        · rw [if_neg]; unfold cnS; rw [decide_eq_false (by omega)]; simp
        · rw [if_neg]; unfold cnS; rw [decide_eq_false (fun q => q.2 c2)]; simp
        · rw [mmS_cell (by omega), F1 315 _ (by unfold Smc Smt Spm; omega), hlt.1.1]
          have hob := hT.1.2.1.1
          rw [Ne, bit_is hlt.1.2.1 (by omega)]
          refine ⟨fun c3 => ⟨by omega, fin 0 ?_ _⟩, fun c3 => ⟨by omega, fin 1 ?_ _⟩⟩
          · rw [if_neg]; unfold cnS; rw [Bool.eq_false_iff.mpr c3]; simp
          · rw [if_pos]; unfold cnS; rw [Decidable.of_not_not c3, decide_eq_true ⟨by omega, c2⟩]; rfl
    refine T_m_comes_1 _ _ _ _ _ _ _ _ _ _ _ (q_m_lotMany ⟨fun c => absurd c (by rw [f 313 6 (by unfold Smc Smt Spm; omega)]; omega), fun _ => ?_⟩)
    rw [Ne, Ne, bit_is hi0 (by omega), bit_is hi0 (by omega)]
    have e329 : h' 329 (2 + i) = g 87 i := by rw [f 329 _ (by unfold Smc Smt Spm; omega)]; exact hti.1
    refine ⟨fun c => ⟨fun c2 => q_m_tilesOf hi0 (by omega) ?_, fun c2 => q_m_tilesOf hi0 (by omega) ⟨fun c3 => q_m_tilesOf hi0 (by omega) ?_, fun c3 => ?_⟩⟩, fun c => ?_⟩
    · have := rest w6
      unfold tlS at this
      rw [if_neg c, if_neg (fun q => c2 q.1)] at this
      rw [e329]; exact this
    · have := rest w6
      unfold tlS at this
      rw [e329] at c3
      rw [if_neg c, if_neg (fun q => c3 q.2)] at this
      rw [e329]; exact this
    · have := rest w6
      unfold tlS at this
      rw [e329] at c3
      rw [if_neg c, if_pos ⟨Decidable.of_not_not c2, Decidable.of_not_not c3⟩] at this
      exact this
    · have := rest w6
      unfold tlS at this
      rw [if_pos (Decidable.of_not_not c)] at this
      exact this
theorem q_m_comes {u p gone op ow : Int} (hu : u = 5 ∨ u = 46) (hT : Tn u 1 g h) (hN : Nw 86 329 0 u g h) (p1 : 0 ≤ p) (p2 : p < g u 3)
    (hy : ∀ h', Fr Smc h h' → (∀ l, 0 ≤ l → l < g u 1 → h' 331 l = tollC u g p l (tlS g gone op l) ∧ h' 330 l = if cnS u g p gone op ow l = true then 1 else 0) → Q 0 h') : qC tFM (d + 5) k_m_comes [282, p, gone, op, ow] h Q :=
  qC_intro (T_m_comes_0 _ _ _ _ _ _ _ _ _ (l_m_comes hu hT hN p1 p2 hy (g u 1).toNat 0 h _ (by have := hT.1.2.1.2.1; omega) (Int.le_refl _) Fr.rf (fun l l1 l2 => absurd l2 (by omega))))
end MW
section MF
variable {d : Nat} {g h : mmH} {Q : Int → mmH → Prop}
theorem rxc_iff {n : Int} {E : Int → Int → Bool} {w : Int → Int} {last : Int} {V : wV} {a b : Int} (hI : wInv n E w last V) (hn : n ≤ 10) (hw : wOk n E w) (a1 : 0 ≤ a) (a2 : a < n) (b1 : 0 ≤ b) (b2 : b < n) (hE : E a b = true) (hf : V b ≠ wFar) :
    rxc E w a b V ↔ (V b).1 + w b < (V a).1 ∨ ((V b).1 + w b = (V a).1 ∧ (V b).2 + 1 < (V a).2) := by
  have vb := wInv_fin hI hn b1 b2 hf
  have wb := hw a b a1 a2 b1 b2 hE
  have hb : (V b).1 ≠ 1000000 := by omega
  by_cases hfa : V a = wFar
  · unfold rxc
    rw [hfa]
    unfold wFar ky
    simp only []
    constructor
    · intro q; left; omega
    · intro q; exact ⟨hE, hb, by omega⟩
  · have va := wInv_fin hI hn a1 a2 hfa
    unfold rxc ky
    constructor
    · intro q; obtain ⟨q1, q2, q3⟩ := q; omega
    · intro q; exact ⟨hE, hb, by omega⟩
/-- one try, on the reference's side -/
theorem rsM_step {n : Int} {E : Int → Int → Bool} {w : Int → Int} {last : Int} {V : wV} {h' : mmH} {a b : Int} (hn : n ≤ 10) (hw : wOk n E w) (hR : rsM n E w last h V h') (a1 : 0 ≤ a) (a2 : a < n) (b1 : 0 ≤ b) (b2 : b < n) (hc : rxc E w a b V) :
    rsM n E w last h (rx E w a b V) (mmS (mmS h' 332 a ((V b).1 + w b)) 333 a ((V b).2 + 1)) := by
  obtain ⟨hF, hx, hI⟩ := hR
  refine ⟨(hF.put (Or.inl rfl)).put (Or.inr rfl), fun x x1 x2 => ?_, rx_inv hn (fun x x1 x2 => hw a x a1 a2 x1 x2) hI a1 a2 b1 b2⟩
  rw [rx_pos hc, mmS_cell (by omega), mmS_slot, mmS_slot, mmS_cell (by omega)]
  by_cases ex : x = a
  · rw [if_pos ex, if_pos ex]
    exact ⟨by simp only [if_pos ex], by simp only [if_pos ex]⟩
  · rw [if_neg ex, if_neg ex]
    simp only [if_neg ex]
    exact hx x x1 x2
theorem l_m_finds5 {u p c1 c2 r : Int} {last : Int} (hT : Tn u 1 g h) (hN : Nw 86 329 0 u g h) (p1 : 0 ≤ p) (p2 : p < g u 3) (hw : wOk (g u 1) (eM u g h p c1 c2) (h 331)) {a : Int} (a1 : 0 ≤ a) (a2 : a < g u 1)
    (hk : ∀ l, 0 ≤ l → l < g u 1 → h 330 l = 0 ∨ h 330 l = 1) :
    ∀ (m : Nat) (b : Int) (V : wV) (h' : mmH) (w7 w8 w9 : mmV), b + m = g u 1 → 0 ≤ b → rsM (g u 1) (eM u g h p c1 c2) (h 331) last h V h' →
      (∀ h'' w w' w'' w3, rsM (g u 1) (eM u g h p c1 c2) (h 331) last h (upI (fun b V => rx (eM u g h p c1 c2) (h 331) a b V) m b V) h'' → qB tFM (d + 2) k_m_finds (h 0 0) (h 0 1) Q 4 [(3, 282), (1, p), (1, c1), (1, c2), (1, r), (1, a + 1), w, w', w'', w3] [] h'') →
      qB tFM (d + 2) k_m_finds (h 0 0) (h 0 1) Q 5 [(3, 282), (1, p), (1, c1), (1, c2), (1, r), (1, a), (1, b), w7, w8, w9] [] h'
  | 0, b, V, h', w7, w8, w9, hb, hb0, hR, hy => by
    have h6 := hT.1.1.2.1
    have n1 := hT.1.2.1.2.1
    simp only [Int.reduceMul, Int.reduceAdd] at h6
    refine T_m_finds_5 _ _ _ _ _ _ _ _ _ _ _ _ _ _ (q_m_lotMany ⟨fun _ => ?_, fun c => absurd ?_ c⟩)
    · rw [mAdd_ok (a := a) (by omega) (by omega)]
      exact hy h' _ _ _ _ hR
    · rw [hR.1 313 6 (by omega)]; omega
  | m + 1, b, V, h', w7, w8, w9, hb, hb0, hR, hy => by
    have h6 := hT.1.1.2.1
    have n1 := hT.1.2.1.2.1
    have hn1 := hN.2.1
    simp only [Int.reduceMul, Int.reduceAdd, Int.zero_add] at h6 hn1
    have hF := hR.1
    have hTm : Tn u 1 g h' := Tn_frM (fun k j q => hF k j (by unfold TnM at q; omega)) hT
    have hz := wInv_fin hR.2.2 n1.2 hb0 (by omega) (x := b)
    have hwb := hw a b a1 a2 hb0 (by omega)
    have f : ∀ k j, ¬ (k = 332 ∨ k = 333) → h' k j = h k j := hF
    -- on to the next b
    have nxt : ∀ (h2 : mmH) (x7 : Int) (w8 w9 : mmV), rsM (g u 1) (eM u g h p c1 c2) (h 331) last h (rx (eM u g h p c1 c2) (h 331) a b V) h2 → qB tFM (d + 2) k_m_finds (h 0 0) (h 0 1) Q 12 [(3, 282), (1, p), (1, c1), (1, c2), (1, r), (1, a), (1, b), (1, x7), w8, w9] [] h2 := by
      intro h2 x7 w8 w9 hR2
      refine T_m_finds_12 _ _ _ _ _ _ _ _ _ _ _ _ _ _ ?_
      rw [mAdd_ok (a := b) (by omega) (by omega)]
      exact l_m_finds5 hT hN p1 p2 hw a1 a2 hk m (b + 1) _ h2 _ _ _ (by omega) (by omega) hR2 hy
    have stay : ∀ (x7 : Int) (w8 w9 : mmV), ¬ rxc (eM u g h p c1 c2) (h 331) a b V → qB tFM (d + 2) k_m_finds (h 0 0) (h 0 1) Q 12 [(3, 282), (1, p), (1, c1), (1, c2), (1, r), (1, a), (1, b), (1, x7), w8, w9] [] h' :=
      fun x7 w8 w9 hc => nxt h' x7 w8 w9 (by rw [rx_neg hc]; exact hR)
    have blk10 : ∀ (x7 : Int) (w8 w9 : mmV), eM u g h p c1 c2 a b = true → V b ≠ wFar → qB tFM (d + 2) k_m_finds (h 0 0) (h 0 1) Q 10 [(3, 282), (1, p), (1, c1), (1, c2), (1, r), (1, a), (1, b), (1, x7), w8, w9] [] h' := by
      intro x7 w8 w9 hE hf
      have vb := hz hf
      have wb := hwb hE
      have hrc := rxc_iff hR.2.2 n1.2 hw a1 a2 hb0 (by omega) hE hf
      obtain ⟨x1, x2⟩ := hR.2.1 a a1 a2
      obtain ⟨y1, y2⟩ := hR.2.1 b hb0 (by omega)
      refine T_m_finds_10 _ _ _ _ _ _ _ _ _ _ _ _ _ _ ?_
      simp only [mmD_iff]
      rw [x1, x2, y1, y2, f 331 b (by omega), mAdd_ok (a := (V b).1) (by omega) (by omega), mAdd_ok (a := (V b).2) (by omega) (by omega)]
      have upd : rxc (eM u g h p c1 c2) (h 331) a b V → qB tFM (d + 2) k_m_finds (h 0 0) (h 0 1) Q 12 [(3, 282), (1, p), (1, c1), (1, c2), (1, r), (1, a), (1, b), (1, x7), (1, (V b).1 + h 331 b), (1, (V b).2 + 1)] [] (mmS (mmS h' 332 a ((V b).1 + h 331 b)) 333 a ((V b).2 + 1)) :=
        fun hc => nxt _ x7 _ _ (rsM_step n1.2 hw hR a1 a2 hb0 (by omega) hc)
      refine ⟨by omega, by omega, by omega, by omega, fun c => stay _ _ _ (fun q => ?_), fun c => ⟨by omega, fun c2 => ⟨by omega, by omega, upd (hrc.mpr (by omega))⟩, fun c2 => ⟨by omega, fun c3 => ⟨by omega, by omega, upd (hrc.mpr (by omega))⟩, fun c3 => stay _ _ _ (fun q => ?_)⟩⟩⟩
      · have := hrc.mp q; omega
      · have := hrc.mp q; omega
    have blk9 : ∀ (s0 : Int) (w7 w8 w9 : mmV), YN s0 ((a = c1 ∧ b = c2) ∨ (a = c2 ∧ b = c1)) → qB tFM (d + 2) k_m_finds (h 0 0) (h 0 1) Q 9 [(3, 282), (1, p), (1, c1), (1, c2), (1, r), (1, a), (1, b), w7, w8, w9] [(1, s0)] h' := by
      intro s0 w7 w8 w9 hs
      refine T_m_finds_9 _ _ _ _ _ _ _ _ _ _ _ _ _ _ _ ⟨fun c => stay _ _ _ (fun q => ?_), fun c => mmD_of (by omega) ?_⟩
      · have := q.1
        unfold eM at this
        rw [decide_eq_true (hs.pos c)] at this
        simp at this
      · have hout := hs.neg (Decidable.of_not_not c)
        obtain ⟨y1, y2⟩ := hR.2.1 b hb0 (by omega)
        rw [y1, f 330 b (by omega)]
        refine ⟨fun c2 => stay _ _ _ (fun q => q.2.1 c2), fun c2 => mmD_of (by omega) ⟨fun c3 => stay _ _ _ (fun q => ?_), fun c3 => ?_⟩⟩
        · have := q.1
          unfold eM at this
          simp [c3] at this
        · have hfb : V b ≠ wFar := fun q => c2 (by rw [q]; rfl)
          refine q_m_isNear hTm ?_ p1 p2 a1 a2 hb0 (by omega) (fun x hx => ?_)
          · rw [f 329 1 (by omega)]
            exact hn1
          · skip
            refine ⟨fun c4 => blk10 _ _ _ ?_ hfb, fun c4 => stay _ _ _ (fun q => ?_)⟩
            · unfold eM
              rw [decide_eq_false hout, decide_eq_true c3, hx.pos c4]
              rfl
            · have := q.1
              unfold eM at this
              rw [Bool.and_eq_true] at this
              exact hx.neg (Decidable.of_not_not c4) this.2
    refine T_m_finds_5 _ _ _ _ _ _ _ _ _ _ _ _ _ _ (q_m_lotMany ⟨fun c => absurd c (by rw [f 313 6 (by omega)]; omega), fun _ => ?_⟩)
    exact ⟨fun q1 => ⟨fun q2 => blk9 0 _ _ _ (YN.no (by omega)), fun q2 => ⟨fun q3 => blk9 0 _ _ _ (YN.no (by omega)), fun q3 => blk9 1 _ _ _ (YN.yes (by omega))⟩⟩, fun q1 => ⟨fun q2 => blk9 1 _ _ _ (YN.yes (by omega)), fun q2 => ⟨fun q3 => blk9 0 _ _ _ (YN.no (by omega)), fun q3 => ⟨fun q4 => blk9 0 _ _ _ (YN.no (by omega)), fun q4 => blk9 1 _ _ _ (YN.yes (by omega))⟩⟩⟩⟩
theorem l_m_finds4 {u p c1 c2 r : Int} {last : Int} (hT : Tn u 1 g h) (hN : Nw 86 329 0 u g h) (p1 : 0 ≤ p) (p2 : p < g u 3) (hw : wOk (g u 1) (eM u g h p c1 c2) (h 331)) (hr : 0 ≤ r ∧ r < 10)
    (hk : ∀ l, 0 ≤ l → l < g u 1 → h 330 l = 0 ∨ h 330 l = 1) :
    ∀ (m : Nat) (a : Int) (V : wV) (h' : mmH) (w6 w7 w8 w9 : mmV), a + m = g u 1 → 0 ≤ a → rsM (g u 1) (eM u g h p c1 c2) (h 331) last h V h' →
      (∀ h'' w w1 w2 w3 w4, rsM (g u 1) (eM u g h p c1 c2) (h 331) last h (upI (fun a V => rxRow (g u 1) (eM u g h p c1 c2) (h 331) a V) m a V) h'' → qB tFM (d + 2) k_m_finds (h 0 0) (h 0 1) Q 3 [(3, 282), (1, p), (1, c1), (1, c2), (1, r + 1), w, w1, w2, w3, w4] [] h'') →
      qB tFM (d + 2) k_m_finds (h 0 0) (h 0 1) Q 4 [(3, 282), (1, p), (1, c1), (1, c2), (1, r), (1, a), w6, w7, w8, w9] [] h'
  | 0, a, V, h', w6, w7, w8, w9, ha, ha0, hR, hy => by
    have h6 := hT.1.1.2.1
    simp only [Int.reduceMul, Int.reduceAdd] at h6
    refine T_m_finds_4 _ _ _ _ _ _ _ _ _ _ _ _ _ _ (q_m_lotMany ⟨fun _ => ?_, fun c => absurd ?_ c⟩)
    · rw [mAdd_ok (a := r) (by omega) (by omega)]
      exact hy h' _ _ _ _ _ hR
    · rw [hR.1 313 6 (by omega)]; omega
  | m + 1, a, V, h', w6, w7, w8, w9, ha, ha0, hR, hy => by
    have h6 := hT.1.1.2.1
    simp only [Int.reduceMul, Int.reduceAdd] at h6
    refine T_m_finds_4 _ _ _ _ _ _ _ _ _ _ _ _ _ _ (q_m_lotMany ⟨fun c => absurd c (by rw [hR.1 313 6 (by omega)]; omega), fun _ => ?_⟩)
    refine l_m_finds5 (r := r) hT hN p1 p2 hw ha0 (by omega) hk (g u 1).toNat 0 V h' _ _ _ (by omega) (Int.le_refl _) hR (fun h'' w w1 w2 w3 hR2 => ?_)
    have e : upI (fun b V => rx (eM u g h p c1 c2) (h 331) a b V) (g u 1).toNat 0 V = rxRow (g u 1) (eM u g h p c1 c2) (h 331) a V := by
      unfold rxRow upTo
      rw [show g u 1 - 0 = g u 1 by omega]
    rw [e] at hR2
    exact l_m_finds4 hT hN p1 p2 hw hr hk m (a + 1) _ h'' _ _ _ _ (by omega) (by omega) hR2 hy
theorem l_m_finds3 {u p c1 c2 : Int} {last : Int} (hT : Tn u 1 g h) (hN : Nw 86 329 0 u g h) (p1 : 0 ≤ p) (p2 : p < g u 3) (hw : wOk (g u 1) (eM u g h p c1 c2) (h 331))
    (hk : ∀ l, 0 ≤ l → l < g u 1 → h 330 l = 0 ∨ h 330 l = 1)
    (hy : ∀ h'', rsM (g u 1) (eM u g h p c1 c2) (h 331) last h (dis (g u 1) (eM u g h p c1 c2) (h 331) last) h'' → ∀ x, YN x (dis (g u 1) (eM u g h p c1 c2) (h 331) last (g 88 p) ≠ wFar) → Q x h'') :
    ∀ (m : Nat) (r : Int) (h' : mmH) (w5 w6 w7 w8 w9 : mmV), r + m = g u 1 → 0 ≤ r → rsM (g u 1) (eM u g h p c1 c2) (h 331) last h (rxs (g u 1) (eM u g h p c1 c2) (h 331) r.toNat (wV0 last)) h' →
      qB tFM (d + 2) k_m_finds (h 0 0) (h 0 1) Q 3 [(3, 282), (1, p), (1, c1), (1, c2), (1, r), w5, w6, w7, w8, w9] [] h'
  | 0, r, h', w5, w6, w7, w8, w9, hr, hr0, hR => by
    have h6 := hT.1.1.2.1
    have n1 := hT.1.2.1.2.1
    have n3 := hT.1.2.1.2.2.1
    have hpp := hN.2.2.2.2.1 p p1 p2
    simp only [Int.reduceMul, Int.reduceAdd, Int.zero_add] at h6 hpp
    have er : rxs (g u 1) (eM u g h p c1 c2) (h 331) r.toNat (wV0 last) = dis (g u 1) (eM u g h p c1 c2) (h 331) last := by
      unfold dis
      rw [show r = g u 1 by omega]
    rw [er] at hR
    refine T_m_finds_3 _ _ _ _ _ _ _ _ _ _ _ _ _ _ (q_m_lotMany ⟨fun _ => q_m_placeOf p1 (by omega) ?_, fun c => absurd ?_ c⟩)
    · rw [hR.1 329 _ (by omega), hpp.1]
      obtain ⟨x1, x2⟩ := hR.2.1 (g 88 p) hpp.2.2.1.1 hpp.2.2.1.2
      rw [x1]
      refine mmD_of (by omega) ⟨fun c => hy h' hR _ (YN.no (fun q => ?_)), fun c => hy h' hR _ (YN.yes (fun q => ?_))⟩
      · have := wInv_fin hR.2.2 n1.2 hpp.2.2.1.1 hpp.2.2.1.2 q
        omega
      · rw [q] at c
        exact c (by decide)
    · rw [hR.1 313 6 (by omega)]; omega
  | m + 1, r, h', w5, w6, w7, w8, w9, hr, hr0, hR => by
    have h6 := hT.1.1.2.1
    have n1 := hT.1.2.1.2.1
    simp only [Int.reduceMul, Int.reduceAdd] at h6
    refine T_m_finds_3 _ _ _ _ _ _ _ _ _ _ _ _ _ _ (q_m_lotMany ⟨fun c => absurd c (by rw [hR.1 313 6 (by omega)]; omega), fun _ => ?_⟩)
    refine l_m_finds4 (r := r) hT hN p1 p2 hw (by omega) hk (g u 1).toNat 0 _ h' _ _ _ _ (by omega) (Int.le_refl _) hR (fun h'' w w1 w2 w3 w4 hR2 => ?_)
    have e : upI (fun a V => rxRow (g u 1) (eM u g h p c1 c2) (h 331) a V) (g u 1).toNat 0 (rxs (g u 1) (eM u g h p c1 c2) (h 331) r.toNat (wV0 last)) = rxs (g u 1) (eM u g h p c1 c2) (h 331) (r + 1).toNat (wV0 last) := by
      rw [show (r + 1).toNat = r.toNat + 1 by omega, rxs_succ]
      unfold rxRnd upTo
      rw [show g u 1 - 0 = g u 1 by omega]
    rw [e] at hR2
    exact l_m_finds3 hT hN p1 p2 hw hk hy m (r + 1) h'' _ _ _ _ _ (by omega) (by omega) hR2
theorem q_m_finds {u p c1 c2 : Int} (hT : Tn u 1 g h) (hN : Nw 86 329 0 u g h) (p1 : 0 ≤ p) (p2 : p < g u 3) (hw : wOk (g u 1) (eM u g h p c1 c2) (h 331))
    (hk : ∀ l, 0 ≤ l → l < g u 1 → h 330 l = 0 ∨ h 330 l = 1)
    (hy : ∀ h'', rsM (g u 1) (eM u g h p c1 c2) (h 331) (g 89 p) h (dis (g u 1) (eM u g h p c1 c2) (h 331) (g 89 p)) h'' → ∀ x, YN x (dis (g u 1) (eM u g h p c1 c2) (h 331) (g 89 p) (g 88 p) ≠ wFar) → Q x h'') : qC tFM (d + 3) k_m_finds [282, p, c1, c2] h Q := by
  have h6 := hT.1.1.2.1
  have n1 := hT.1.2.1.2.1
  have n3 := hT.1.2.1.2.2.1
  have hpp := hN.2.2.2.2.1 p p1 p2
  simp only [Int.reduceMul, Int.reduceAdd, Int.zero_add] at h6 hpp
  refine qC_intro (T_m_finds_0 _ _ _ _ _ _ _ _ ?_)
  have key : ∀ (m : Nat) (i : Int) (h' : mmH), i + m = g u 1 → 0 ≤ i → Fr (fun k _ => k = 332 ∨ k = 333) h h' → (∀ x, 0 ≤ x → x < i → h' 332 x = 1000000 ∧ h' 333 x = 1000000) → qB tFM (d + 2) k_m_finds (h 0 0) (h 0 1) Q 1 [(3, 282), (1, p), (1, c1), (1, c2), (1, i), (0, 0), (0, 0), (0, 0), (0, 0), (0, 0)] [] h' := by
    intro m
    induction m with
    | zero =>
      intro i h' hi i0 hF hx
      refine T_m_finds_1 _ _ _ _ _ _ _ _ _ (q_m_lotMany ⟨fun _ => q_m_goalOf p1 (by omega) ?_, fun c => absurd ?_ c⟩)
      · rw [hF 329 _ (by omega), hpp.2.1]
        refine mmD_of (by omega) (q_m_goalOf p1 (by omega) ?_)
        rw [mmS_cell (by omega), hF 329 _ (by omega), hpp.2.1]
        refine mmD_of (by omega) ?_
        refine l_m_finds3 (last := g 89 p) hT hN p1 p2 hw hk hy (g u 1).toNat 0 _ _ _ _ _ _ (by omega) (Int.le_refl _) ⟨(hF.put (Or.inl rfl)).put (Or.inr rfl), fun x x1 x2 => ?_, wV0_inv hpp.2.2.2.1.1 hpp.2.2.2.1.2⟩
        rw [mmS_cell (by omega), mmS_slot, mmS_slot, mmS_cell (by omega)]
        show _ = (wV0 (g 89 p) x).1 ∧ _ = (wV0 (g 89 p) x).2
        unfold wV0
        by_cases ex : x = g 89 p
        · rw [if_pos ex, if_pos ex, if_pos ex]; exact ⟨rfl, rfl⟩
        · rw [if_neg ex, if_neg ex, if_neg ex]; exact hx x x1 (by omega)
      · rw [hF 313 6 (by omega)]; omega
    | succ m ih =>
      intro i h' hi i0 hF hx
      refine T_m_finds_1 _ _ _ _ _ _ _ _ _ (q_m_lotMany ⟨fun c => absurd c (by rw [hF 313 6 (by omega)]; omega), fun _ => mmD_of (by omega) (mmD_of (by omega) ?_)⟩)
      rw [mAdd_ok (a := i) (by omega) (by omega)]
      refine ih (i + 1) _ (by omega) (by omega) ((hF.put (Or.inl rfl)).put (Or.inr rfl)) (fun x x1 x2 => ?_)
      rw [mmS_cell (by omega), mmS_slot, mmS_slot, mmS_cell (by omega)]
      by_cases ex : x = i
      · rw [if_pos ex, if_pos ex]; exact ⟨rfl, rfl⟩
      · rw [if_neg ex, if_neg ex]; exact hx x x1 (by omega)
  exact key (g u 1).toNat 0 h (by omega) (Int.le_refl _) Fr.rf (fun x x1 x2 => absurd x2 (by omega))
end MF
