/-! ===== mm: faults stay ===== -/
def Stk (g g' : mmH) : Prop := g 3 0 ≠ 0 → g' 3 0 = g 3 0 ∧ g' 3 1 = g 3 1
theorem Stk.rf {g : mmH} : Stk g g := fun _ => ⟨rfl, rfl⟩
theorem Stk.tr {g g' g'' : mmH} (a : Stk g g') (b : Stk g' g'') : Stk g g'' := fun c => by
  obtain ⟨a1, a2⟩ := a c
  obtain ⟨b1, b2⟩ := b (by rw [a1]; exact c)
  exact ⟨by rw [b1, a1], by rw [b2, a2]⟩
theorem Stk.put {g g' : mmH} {k i x : Int} (a : Stk g g') (hk : k ≠ 3 ∨ (i ≠ 0 ∧ i ≠ 1)) : Stk g (mmS g' k i x) := fun c => by
  obtain ⟨a1, a2⟩ := a c
  by_cases e : k = 3
  · subst e
    rw [mmS_slot, mmS_slot, if_neg (by omega), if_neg (by omega)]
    exact ⟨a1, a2⟩
  · rw [mmS_cell (by omega), mmS_cell (by omega)]
    exact ⟨a1, a2⟩
section SK
variable {v : Int} {g g' g'' : mmH}
theorem sk_sk : Stk g (skH g) := Stk.rf.put (by omega)
theorem sk_ps : Stk g (psH g) := (Stk.rf.put (by omega)).put (by omega)
theorem sk_stp : Stk g (stpH g) := Stk.rf.put (by omega)
theorem sk_fl {w p : Int} : Stk g (flH w p g) := fun c => by
  unfold flH
  rw [if_pos c]
  exact ⟨rfl, rfl⟩
theorem sk_tw {w : Int} : Stk g (twH w g) := by
  unfold twH
  split
  · exact sk_sk.tr sk_ps
  · exact sk_sk.tr sk_fl
theorem sk_ts {c : Int} : Stk g (tsH c g) := by
  unfold tsH
  split
  · exact sk_sk.tr sk_stp
  · exact sk_sk.tr sk_fl
theorem sk_nuT : Stk g (nuT g) := (Stk.rf.put (by omega)).put (by omega)
theorem sk_nu {lo hi : Int} : Stk g (nuH lo hi g) := by
  unfold nuH nuF
  split
  · exact (sk_sk.tr sk_nuT).tr sk_fl
  · split
    · exact (sk_sk.tr sk_nuT).tr sk_fl
    · split
      · exact (sk_sk.tr sk_nuT).tr sk_fl
      · exact sk_sk.tr sk_nuT
theorem sk_nmS : Stk g (nmS g) := sk_sk.put (by omega)
theorem sk_nm : Stk g (nmH g) := by
  unfold nmH nmF
  split
  · exact sk_nmS.tr sk_ps
  · split
    · exact sk_nmS.tr sk_fl
    · split
      · exact sk_nmS.tr sk_fl
      · exact sk_nmS.tr sk_fl
theorem sk_rf {b : Bool} : Stk g (rfH b g) := by
  unfold rfH
  split
  · exact sk_fl
  · exact Stk.rf
theorem sk_may {o : Int} : Stk g (mayH o g) := by
  unfold mayH
  split
  · exact Stk.rf
  · exact sk_fl
theorem sk_put {t : Int} (hv : v = 5 ∨ v = 46) : Stk g (putT v t g) := by
  unfold putT
  split
  · exact (Stk.rf.put (by omega)).put (by omega)
  · exact Stk.rf
theorem sk_pair {inner : mmH → mmH} {o : Int} (hi : ∀ g, Stk g (inner g)) : Stk g (pairF inner o g) := by
  unfold pairF
  split
  · split
    · exact sk_sk.tr sk_may
    · exact (((((sk_sk.tr sk_may).tr sk_ts).tr (hi _)).tr sk_ts).tr (hi _)).tr sk_ts
  · exact sk_sk.tr sk_fl
theorem sk_part {inner : mmH → mmH} {o : Int} : Stk g (partF v inner o g) := fun c => by
  unfold partF
  rw [if_pos c]
  exact ⟨rfl, rfl⟩
theorem sk_lop {p : mmH → mmH} {c1 c2 : Int} : ∀ (m : Nat) (g : mmH), Stk g (lopF v p c1 c2 m g)
  | 0, _ => Stk.rf
  | m + 1, g => fun c => by
    unfold lopF
    rw [if_pos c]
    exact ⟨rfl, rfl⟩
theorem sk_prd {p : mmH → mmH} (hp : ∀ g, Stk g (p g)) : Stk g (prdF v p g) := (hp g).tr (sk_lop _ _)
theorem sk_smF {p : mmH → mmH} (hp : ∀ g, Stk g (p g)) : Stk g (smF v p g) := (sk_prd hp).tr (sk_lop _ _)
theorem sk_sm : ∀ (n : Nat) (o : Int) (g : mmH), Stk g (smL v n o g)
  | 0, _, _ => Stk.rf
  | n + 1, o, _ => sk_smF (fun _ => sk_part)
theorem sk_cmp {sm : mmH → mmH} (hv : v = 5 ∨ v = 46) (hs : ∀ g, Stk g (sm g)) : Stk g (cmpF v sm g) := by
  unfold cmpF
  split
  · exact ((((hs g).tr sk_sk).tr sk_stp).tr (hs _)).tr (sk_put hv)
  · exact ((hs g).tr sk_sk).tr sk_fl
theorem sk_wlp {p : mmH → mmH} {w t : Int} : ∀ (m : Nat) (g : mmH), Stk g (wlpF v p w t m g)
  | 0, _ => Stk.rf
  | m + 1, g => fun c => by
    unfold wlpF
    rw [if_pos c]
    exact ⟨rfl, rfl⟩
theorem sk_bt {f : mmH → mmH} (hf : ∀ g, Stk g (f g)) : Stk g (btF v f g) := (hf g).tr (sk_wlp _ _)
theorem sk_te {f : mmH → mmH} (hf : ∀ g, Stk g (f g)) : Stk g (teF v f g) := (sk_bt hf).tr (sk_wlp _ _)
theorem sk_fc : ∀ (n : Nat) (o : Int) (g : mmH), Stk g (fcL v n o g)
  | 0, _, _ => Stk.rf
  | n + 1, o, g => fun c => by
    unfold fcL fcF
    rw [if_pos c]
    exact ⟨rfl, rfl⟩
theorem sk_ok (h : Stk g g') (h' : Stk g' g'') : Stk g (okE g' g'') := by
  unfold okE
  split
  · exact h
  · exact h.tr h'
end SK
/-! ===== mm: OWN WORDS as letters ===== -/
def wlL : List (List Int) := [[15, 23, 14, 5, 18], [12, 15, 20], [15, 6], [8, 5, 9, 7, 8, 20], [20, 9, 12, 5, 19], [9, 14, 14], [2, 5, 4, 19], [19, 20, 15, 18, 11], [7, 1, 16], [23, 9, 4, 5], [16, 5, 18, 19, 15, 14], [23, 5, 9, 7, 8, 20], [12, 5, 1, 16], [3, 12, 9, 13, 2], [8, 5, 5, 12], [1, 20], [20, 15], [20, 15, 12, 12], [2, 1, 18], [23, 8, 5, 14], [3, 1, 18, 18, 25], [18, 1, 9, 14], [14, 9, 7, 8, 20], [15, 18], [1, 14, 4], [14, 15, 20], [1, 12, 12], [13, 9, 14], [13, 1, 24]]
theorem pk5_inj : ∀ (l l' : List Int), (∀ x ∈ l, 1 ≤ x ∧ x ≤ 26) → (∀ x ∈ l', 1 ≤ x ∧ x ≤ 26) → pk5 l = pk5 l' → l = l'
  | [], [], _, _, _ => rfl
  | [], c :: r, _, h, e => by
    have hc := h c (List.mem_cons_self ..)
    have hr := pk5_nn r (fun x hx => by have := h x (List.mem_cons_of_mem _ hx); omega)
    unfold pk5 at e
    omega
  | c :: r, [], h, _, e => by
    have hc := h c (List.mem_cons_self ..)
    have hr := pk5_nn r (fun x hx => by have := h x (List.mem_cons_of_mem _ hx); omega)
    unfold pk5 at e
    omega
  | c :: r, c' :: r', h, h', e => by
    have hc := h c (List.mem_cons_self ..)
    have hc' := h' c' (List.mem_cons_self ..)
    have e : c + 32 * pk5 r = c' + 32 * pk5 r' := e
    have e1 : c = c' := by omega
    have e2 : pk5 r = pk5 r' := by omega
    rw [e1, pk5_inj r r' (fun x hx => h x (List.mem_cons_of_mem _ hx)) (fun x hx => h' x (List.mem_cons_of_mem _ hx)) e2]
theorem b27_inj : ∀ (n : Nat) (l l' : List Int), l.length ≤ n → (∀ x ∈ l, 1 ≤ x ∧ x ≤ 26) → (∀ x ∈ l', 1 ≤ x ∧ x ≤ 26) → b27 l = b27 l' → l = l' := by
  have nn : ∀ (n : Nat) (l : List Int), l.length ≤ n → (∀ x ∈ l, 1 ≤ x ∧ x ≤ 26) → 0 ≤ b27 l := by
    intro n
    induction n with
    | zero =>
      intro l hl _
      have : l = [] := List.length_eq_zero_iff.mp (by omega)
      rw [this]; exact Int.le_refl _
    | succ n ih =>
      intro l hl hm
      by_cases q : l = []
      · rw [q]; exact Int.le_refl _
      · rw [← List.dropLast_concat_getLast q, b27_snoc]
        have h1 := ih l.dropLast (by rw [List.length_dropLast]; omega) (fun x hx => hm x ((List.dropLast_subset _) hx))
        have h2 := hm (l.getLast q) (List.getLast_mem q)
        omega
  intro n
  induction n with
  | zero =>
    intro l l' hl hm hm' e
    have e0 : l = [] := List.length_eq_zero_iff.mp (by omega)
    subst e0
    by_cases q : l' = []
    · rw [q]
    · exfalso
      rw [← List.dropLast_concat_getLast q, b27_snoc] at e
      have h1 := nn _ l'.dropLast (Nat.le_refl _) (fun x hx => hm' x ((List.dropLast_subset _) hx))
      have h2 := hm' (l'.getLast q) (List.getLast_mem q)
      have e : (0 : Int) = 27 * b27 l'.dropLast + l'.getLast q := e
      omega
  | succ n ih =>
    intro l l' hl hm hm' e
    by_cases q : l = []
    · subst q
      by_cases q' : l' = []
      · rw [q']
      · exfalso
        rw [← List.dropLast_concat_getLast q', b27_snoc] at e
        have h1 := nn _ l'.dropLast (Nat.le_refl _) (fun x hx => hm' x ((List.dropLast_subset _) hx))
        have h2 := hm' (l'.getLast q') (List.getLast_mem q')
        have e : (0 : Int) = 27 * b27 l'.dropLast + l'.getLast q' := e
        omega
    · have h1 := nn _ l.dropLast (Nat.le_refl _) (fun x hx => hm x ((List.dropLast_subset _) hx))
      have h2 := hm (l.getLast q) (List.getLast_mem q)
      by_cases q' : l' = []
      · exfalso
        subst q'
        rw [← List.dropLast_concat_getLast q, b27_snoc] at e
        have e : 27 * b27 l.dropLast + l.getLast q = (0 : Int) := e
        omega
      · have h1' := nn _ l'.dropLast (Nat.le_refl _) (fun x hx => hm' x ((List.dropLast_subset _) hx))
        have h2' := hm' (l'.getLast q') (List.getLast_mem q')
        rw [← List.dropLast_concat_getLast q, ← List.dropLast_concat_getLast q', b27_snoc, b27_snoc] at e
        have e1 : l.getLast q = l'.getLast q' := by omega
        have e2 : b27 l.dropLast = b27 l'.dropLast := by omega
        have := ih l.dropLast l'.dropLast (by rw [List.length_dropLast]; omega) (fun x hx => hm x ((List.dropLast_subset _) hx)) (fun x hx => hm' x ((List.dropLast_subset _) hx)) e2
        rw [← List.dropLast_concat_getLast q, ← List.dropLast_concat_getLast q', this, e1]
theorem nmR_iff {a b a' b' : Int} (h : nmR a b) (h' : nmR a' b') : a = a' ↔ b = b' := by
  obtain ⟨l, n, rfl, rfl⟩ := h
  obtain ⟨l', n', rfl, rfl⟩ := h'
  constructor
  · intro e
    rw [pk5_inj l l' n.2.2 n'.2.2 e]
  · intro e
    rw [b27_inj _ l l' (Nat.le_refl _) n.2.2 n'.2.2 e]
theorem wlF : ∀ k : Fin 29, owL.getD k.val 0 = pk5 (wlL.getD k.val []) ∧ tSh (284 + (k.val : Int)) = (102, (wlL.getD k.val []).length) ∧ 1 ≤ (wlL.getD k.val []).length ∧ (wlL.getD k.val []).length ≤ 6 ∧ (∀ x ∈ wlL.getD k.val [], 1 ≤ x ∧ x ≤ 26) := by decide +kernel
theorem wlC : ∀ k : Fin 29, ∀ i : Fin 6, i.val < (wlL.getD k.val []).length → tFM (284 + (k.val : Int)) (i.val : Int) = some ((wlL.getD k.val []).getD i.val 0 + 96) := by decide +kernel
theorem wlI : ∀ k j : Fin 29, wlL.getD k.val [] = wlL.getD j.val [] → k.val = j.val := by decide +kernel
theorem plcE_ok (B : Int → Int) (x : Int) : ∀ (m : Nat) (k : Int), (plcE B x m k = -1 ∧ ∀ j, k ≤ j → j < k + m → B j ≠ x) ∨ (k ≤ plcE B x m k ∧ plcE B x m k < k + m ∧ B (plcE B x m k) = x)
  | 0, k => Or.inl ⟨rfl, fun j j1 j2 => absurd j2 (by omega)⟩
  | m + 1, k => by
    show ((if B k = x then k else plcE B x m (k + 1)) = -1 ∧ _) ∨ (k ≤ (if B k = x then k else plcE B x m (k + 1)) ∧ (if B k = x then k else plcE B x m (k + 1)) < _ ∧ B (if B k = x then k else plcE B x m (k + 1)) = x)
    by_cases q : B k = x
    · rw [if_pos q]
      exact Or.inr ⟨by omega, by omega, q⟩
    · rw [if_neg q]
      rcases plcE_ok B x m (k + 1) with ⟨a, b⟩ | ⟨a, b, c⟩
      · refine Or.inl ⟨a, fun j j1 j2 => ?_⟩
        by_cases e : j = k
        · rw [e]; exact q
        · exact b j (by omega) (by omega)
      · exact Or.inr ⟨by omega, by omega, c⟩
theorem ltrs_iff (B : Int → Int) : ∀ (m : Nat) (i : Int) (l : List Int), ltrs B i m = l ↔ (l.length = m ∧ ∀ j : Nat, j < m → B (i + j) - 96 = l.getD j 0)
  | 0, i, l => by
    constructor
    · intro e
      subst e
      exact ⟨rfl, fun j hj => absurd hj (by omega)⟩
    · rintro ⟨h, -⟩
      exact (List.length_eq_zero_iff.mp h).symm
  | m + 1, i, [] => by
    constructor
    · intro e; unfold ltrs at e; cases e
    · rintro ⟨h, -⟩; exact absurd h (by simp)
  | m + 1, i, c :: r => by
    have ih := ltrs_iff B m (i + 1) r
    constructor
    · intro e
      have e : (B i - 96) :: ltrs B (i + 1) m = c :: r := e
      injection e with e1 e2
      obtain ⟨a, b⟩ := ih.mp e2
      refine ⟨by rw [List.length_cons, a], fun j hj => ?_⟩
      cases j with
      | zero => rw [show i + ((0 : Nat) : Int) = i by omega]; exact e1
      | succ j =>
        have := b j (by omega)
        rw [show i + 1 + (j : Int) = i + ((j + 1 : Nat) : Int) by omega] at this
        exact this
    · rintro ⟨a, b⟩
      show (B i - 96) :: ltrs B (i + 1) m = c :: r
      have b0 := b 0 (by omega)
      rw [show i + ((0 : Nat) : Int) = i by omega] at b0
      have b0 : B i - 96 = c := b0
      rw [b0, ih.mpr ⟨by rw [List.length_cons] at a; omega, fun j hj => by
        have := b (j + 1) (by omega)
        rw [show i + ((j + 1 : Nat) : Int) = i + 1 + (j : Int) by omega] at this
        exact this⟩]
theorem wd_iff {v k : Int} {s : mmH} (hS : Sc v s) (k1 : 0 ≤ k) (k2 : k < 29) : wdV s = k ↔ (¬ (leV s = s 3 4 ∨ 6 < leV s - s 3 4 ∨ s 3 4 = s 3 6)) ∧ ltrs (s 2) (s 3 4) (leV s - s 3 4).toNat = wlL.getD k.toNat [] := by
  have hl : ∀ x ∈ ltrs (s 2) (s 3 4) (leV s - s 3 4).toNat, 1 ≤ x ∧ x ≤ 26 := ltrs_mem _ _ (fun j j1 j2 => runT_all (n := s 3 3) j1 (by have := leV_ge hS; show j < leV s; omega))
  have hw := wlF ⟨k.toNat, by omega⟩
  simp only [] at hw
  have ow : ∀ j, 0 ≤ j → j < 29 → s 45 j = pk5 (wlL.getD j.toNat []) := fun j j1 j2 => by
    rw [hS.2.2.2.2 j j1 j2]
    exact (wlF ⟨j.toNat, by omega⟩).1
  constructor
  · intro e
    unfold wdV at e
    by_cases q : leV s = s 3 4 ∨ 6 < leV s - s 3 4 ∨ s 3 4 = s 3 6
    · rw [if_pos q] at e; omega
    · rw [if_neg q] at e
      refine ⟨q, ?_⟩
      rcases plcE_ok (s 45) (pkV s) 29 0 with ⟨a, -⟩ | ⟨a, b, c⟩
      · omega
      · rw [e, ow k k1 k2] at c
        exact (pk5_inj _ _ hw.2.2.2.2 hl c).symm
  · rintro ⟨q, e⟩
    unfold wdV
    rw [if_neg q]
    have ep : pkV s = pk5 (wlL.getD k.toNat []) := by unfold pkV; rw [e]
    rcases plcE_ok (s 45) (pkV s) 29 0 with ⟨-, b⟩ | ⟨a, b, c⟩
    · exact absurd (by rw [ow k k1 k2, ep]) (b k (by omega) (by omega))
    · have c : pk5 (wlL.getD (plcE (s 45) (pkV s) 29 0).toNat []) = pk5 (wlL.getD k.toNat []) := by rw [← ow _ a (by omega), c, ep]
      have hz := wlF ⟨(plcE (s 45) (pkV s) 29 0).toNat, by omega⟩
      simp only [] at hz
      have := wlI ⟨(plcE (s 45) (pkV s) 29 0).toNat, by omega⟩ ⟨k.toNat, by omega⟩ (pk5_inj _ _ hz.2.2.2.2 hw.2.2.2.2 c)
      simp only [] at this
      omega
theorem wd_m1 {s : mmH} (h : leV s = s 3 4 ∨ 6 < leV s - s 3 4 ∨ s 3 4 = s 3 6) : wdV s = -1 := by unfold wdV; rw [if_pos h]
theorem wd_rng {s : mmH} : wdV s = -1 ∨ (0 ≤ wdV s ∧ wdV s < 29) := by
  unfold wdV
  split
  · exact Or.inl rfl
  · rcases plcE_ok (s 45) (pkV s) 29 0 with ⟨a, -⟩ | ⟨a, b, c⟩
    · exact Or.inl a
    · exact Or.inr ⟨a, by omega⟩
