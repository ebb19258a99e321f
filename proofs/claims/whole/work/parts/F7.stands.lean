/-! ===== mm: what is told stands, the reference's side ===== -/
def cpy (K off n : Int) (h h' : mmH) : Prop := Fr (fun k i => k = K ∧ off ≤ i) h h' ∧ ∀ i, 0 ≤ i → i < n → h' K (off + i) = h K i
def cpL (n : Int) (h h' : mmH) : Prop := Fr (fun k i => (k = 320 ∨ k = 321 ∨ k = 324 ∨ k = 325 ∨ k = 326) ∧ 8 ≤ i) h h' ∧ ∀ i, 0 ≤ i → i < n → h' 320 (8 + i) = h 320 i ∧ h' 321 (8 + i) = h 321 i ∧ h' 324 (8 + i) = h 324 i ∧ h' 325 (8 + i) = h 325 i ∧ h' 326 (8 + i) = h 326 i
def stZ (n : Int) (h h' : mmH) : Prop := Fr (fun k _ => k = 329) h h' ∧ ∀ i, 0 ≤ i → i < n → h' 329 i = 0
def stL (n : Int) (h h' : mmH) : Prop := Fr (fun k _ => k = 329) h h' ∧ (∀ l, 0 ≤ l → l < n → h' 329 (2 + l) = h 315 (5 * l + 2)) ∧ ∀ i, i < 2 ∨ 12 ≤ i → h' 329 i = h 329 i
def stP (n : Int) (h h' : mmH) : Prop := Fr (fun k _ => k = 329) h h' ∧ (∀ p, 0 ≤ p → p < n → h' 329 (12 + 2 * p) = h 317 (6 * p + 4) ∧ h' 329 (12 + 2 * p + 1) = h 317 (6 * p + 5)) ∧ ∀ i, i < 12 ∨ 24 ≤ i → h' 329 i = h 329 i
section SD
variable {d : Nat} {n0 z0 n K off : Int} {g h h' : mmH} {Q : Int → mmH → Prop}
theorem cpy_0 : cpy K off 0 h h := ⟨Fr.rf, fun i i1 i2 => by omega⟩
theorem cpy_s (c : cpy K off n h g) (k0 : 0 ≤ n) (hn : n < off) : cpy K off (n + 1) h (mmS g K (off + n) (g K n)) := by
  obtain ⟨c1, c2⟩ := c
  have f : ∀ k i, ¬ (k = K ∧ off ≤ i) → g k i = h k i := c1
  refine ⟨c1.put ⟨rfl, by omega⟩, fun i i1 i2 => ?_⟩
  rw [mmS_slot]
  by_cases q : i = n
  · rw [q, if_pos rfl]; exact f K n (by omega)
  · rw [if_neg (by omega)]; exact c2 i i1 (by omega)
theorem cpL_0 : cpL 0 h h := ⟨Fr.rf, fun i i1 i2 => by omega⟩
theorem cpL_s (c : cpL n h g) (k0 : 0 ≤ n) (hn : n < 8) : cpL (n + 1) h (mmS (mmS (mmS (mmS (mmS g 320 (8 + n) (g 320 n)) 321 (8 + n) (g 321 n)) 324 (8 + n) (g 324 n)) 325 (8 + n) (g 325 n)) 326 (8 + n) (g 326 n)) := by
  obtain ⟨c1, c2⟩ := c
  have f : ∀ k i, ¬ ((k = 320 ∨ k = 321 ∨ k = 324 ∨ k = 325 ∨ k = 326) ∧ 8 ≤ i) → g k i = h k i := c1
  refine ⟨((((c1.put ⟨by omega, by omega⟩).put ⟨by omega, by omega⟩).put ⟨by omega, by omega⟩).put ⟨by omega, by omega⟩).put ⟨by omega, by omega⟩, fun i i1 i2 => ?_⟩
  rw [mmS_cell (by decide), mmS_cell (by decide), mmS_cell (by decide), mmS_cell (by decide), mmS_slot, mmS_cell (by decide), mmS_cell (by decide), mmS_cell (by decide), mmS_slot, mmS_cell (by decide), mmS_cell (by decide), mmS_cell (by decide), mmS_slot, mmS_cell (by decide), mmS_cell (by decide), mmS_cell (by decide), mmS_slot, mmS_cell (by decide), mmS_cell (by decide), mmS_cell (by decide), mmS_slot, mmS_cell (by decide), mmS_cell (by decide), mmS_cell (by decide), mmS_cell (by decide)]
  by_cases q : i = n
  · subst q
    rw [if_pos rfl, if_pos rfl, if_pos rfl, if_pos rfl, if_pos rfl]
    exact ⟨f _ _ (by omega), f _ _ (by omega), f _ _ (by omega), f _ _ (by omega), f _ _ (by omega)⟩
  · have z : ¬ (8 + i = 8 + n) := by omega
    rw [if_neg z, if_neg z, if_neg z, if_neg z, if_neg z]
    exact c2 i i1 (by omega)
theorem st_313 : ∀ (j : Nat) (k : Int) (g : mmH), 0 ≤ k → k + j = 5 → cpy 313 5 k h g → (∀ h', cpy 313 5 5 h h' → qB tFM d k_m_stands n0 z0 Q 3 [(3, 282), (1, 0)] [] h') → qB tFM d k_m_stands n0 z0 Q 1 [(3, 282), (1, k)] [] g
  | 0, k, g, k0, hk, c, hy => by
    have e : k = 5 := by omega
    rw [e] at c
    exact T_m_stands_1 _ _ _ _ _ _ ⟨fun _ => hy g c, fun q => absurd (by omega) q⟩
  | j + 1, k, g, k0, hk, c, hy => by
    refine T_m_stands_1 _ _ _ _ _ _ ⟨fun q => absurd q (by omega), fun _ => ?_⟩
    rw [mmD_iff, mmD_iff, mAdd_ok (a := 5) (by omega) (by omega), mAdd_ok (a := k) (by omega) (by omega)]
    exact ⟨by omega, by omega, st_313 j (k + 1) _ (by omega) (by omega) (cpy_s c k0 (by omega)) hy⟩
theorem st_314 : ∀ (j : Nat) (k : Int) (g : mmH), 0 ≤ k → k + j = 30 → cpy 314 30 k h g → (∀ h', cpy 314 30 30 h h' → qB tFM d k_m_stands n0 z0 Q 5 [(3, 282), (1, 0)] [] h') → qB tFM d k_m_stands n0 z0 Q 3 [(3, 282), (1, k)] [] g
  | 0, k, g, k0, hk, c, hy => by
    have e : k = 30 := by omega
    rw [e] at c
    exact T_m_stands_3 _ _ _ _ _ _ ⟨fun _ => hy g c, fun q => absurd (by omega) q⟩
  | j + 1, k, g, k0, hk, c, hy => by
    refine T_m_stands_3 _ _ _ _ _ _ ⟨fun q => absurd q (by omega), fun _ => ?_⟩
    rw [mmD_iff, mmD_iff, mAdd_ok (a := 30) (by omega) (by omega), mAdd_ok (a := k) (by omega) (by omega)]
    exact ⟨by omega, by omega, st_314 j (k + 1) _ (by omega) (by omega) (cpy_s c k0 (by omega)) hy⟩
theorem st_315 : ∀ (j : Nat) (k : Int) (g : mmH), 0 ≤ k → k + j = 50 → cpy 315 50 k h g → (∀ h', cpy 315 50 50 h h' → qB tFM d k_m_stands n0 z0 Q 7 [(3, 282), (1, 0)] [] h') → qB tFM d k_m_stands n0 z0 Q 5 [(3, 282), (1, k)] [] g
  | 0, k, g, k0, hk, c, hy => by
    have e : k = 50 := by omega
    rw [e] at c
    exact T_m_stands_5 _ _ _ _ _ _ ⟨fun _ => hy g c, fun q => absurd (by omega) q⟩
  | j + 1, k, g, k0, hk, c, hy => by
    refine T_m_stands_5 _ _ _ _ _ _ ⟨fun q => absurd q (by omega), fun _ => ?_⟩
    rw [mmD_iff, mmD_iff, mAdd_ok (a := 50) (by omega) (by omega), mAdd_ok (a := k) (by omega) (by omega)]
    exact ⟨by omega, by omega, st_315 j (k + 1) _ (by omega) (by omega) (cpy_s c k0 (by omega)) hy⟩
theorem st_316 : ∀ (j : Nat) (k : Int) (g : mmH), 0 ≤ k → k + j = 100 → cpy 316 100 k h g → (∀ h', cpy 316 100 100 h h' → qB tFM d k_m_stands n0 z0 Q 9 [(3, 282), (1, 0)] [] h') → qB tFM d k_m_stands n0 z0 Q 7 [(3, 282), (1, k)] [] g
  | 0, k, g, k0, hk, c, hy => by
    have e : k = 100 := by omega
    rw [e] at c
    exact T_m_stands_7 _ _ _ _ _ _ ⟨fun _ => hy g c, fun q => absurd (by omega) q⟩
  | j + 1, k, g, k0, hk, c, hy => by
    refine T_m_stands_7 _ _ _ _ _ _ ⟨fun q => absurd q (by omega), fun _ => ?_⟩
    rw [mmD_iff, mmD_iff, mAdd_ok (a := 100) (by omega) (by omega), mAdd_ok (a := k) (by omega) (by omega)]
    exact ⟨by omega, by omega, st_316 j (k + 1) _ (by omega) (by omega) (cpy_s c k0 (by omega)) hy⟩
theorem st_317 : ∀ (j : Nat) (k : Int) (g : mmH), 0 ≤ k → k + j = 36 → cpy 317 36 k h g → (∀ h', cpy 317 36 36 h h' → qB tFM d k_m_stands n0 z0 Q 11 [(3, 282), (1, 0)] [] (mmS (mmS h' 318 1 (h' 318 0)) 319 1 (h' 319 0))) → qB tFM d k_m_stands n0 z0 Q 9 [(3, 282), (1, k)] [] g
  | 0, k, g, k0, hk, c, hy => by
    have e : k = 36 := by omega
    rw [e] at c
    exact T_m_stands_9 _ _ _ _ _ _ ⟨fun _ => hy g c, fun q => absurd (by omega) q⟩
  | j + 1, k, g, k0, hk, c, hy => by
    refine T_m_stands_9 _ _ _ _ _ _ ⟨fun q => absurd q (by omega), fun _ => ?_⟩
    rw [mmD_iff, mmD_iff, mAdd_ok (a := 36) (by omega) (by omega), mAdd_ok (a := k) (by omega) (by omega)]
    exact ⟨by omega, by omega, st_317 j (k + 1) _ (by omega) (by omega) (cpy_s c k0 (by omega)) hy⟩
theorem st_320 : ∀ (j : Nat) (k : Int) (g : mmH), 0 ≤ k → k + j = 8 → cpL k h g → (∀ h', cpL 8 h h' → qB tFM d k_m_stands n0 z0 Q 13 [(3, 282), (1, 0)] [] h') → qB tFM d k_m_stands n0 z0 Q 11 [(3, 282), (1, k)] [] g
  | 0, k, g, k0, hk, c, hy => by
    have e : k = 8 := by omega
    rw [e] at c
    exact T_m_stands_11 _ _ _ _ _ _ ⟨fun _ => hy g c, fun q => absurd (by omega) q⟩
  | j + 1, k, g, k0, hk, c, hy => by
    refine T_m_stands_11 _ _ _ _ _ _ ⟨fun q => absurd q (by omega), fun _ => ?_⟩
    rw [mmD_iff, mmD_iff, mmD_iff, mmD_iff, mmD_iff, mmD_iff, mmD_iff, mmD_iff, mmD_iff, mmD_iff, mAdd_ok (a := 8) (by omega) (by omega), mAdd_ok (a := k) (by omega) (by omega)]
    exact ⟨by omega, by omega, by omega, by omega, by omega, by omega, by omega, by omega, by omega, by omega, st_320 j (k + 1) _ (by omega) (by omega) (cpL_s c k0 (by omega)) hy⟩
theorem st_322 {N : Int} (hN : N ≤ 1600) : ∀ (j : Nat) (k : Int) (g : mmH), 0 ≤ k → k + j = N → g 282 50 = N → cpy 322 1600 k h g → (∀ h', cpy 322 1600 N h h' → qB tFM d k_m_stands n0 z0 Q 15 [(3, 282), (1, 0)] [] h') → qB tFM d k_m_stands n0 z0 Q 13 [(3, 282), (1, k)] [] g
  | 0, k, g, k0, hk, e5, c, hy => by
    have e : k = N := by omega
    rw [e] at c
    exact T_m_stands_13 _ _ _ _ _ _ ⟨fun _ => hy g c, fun q => absurd (by omega) q⟩
  | j + 1, k, g, k0, hk, e5, c, hy => by
    refine T_m_stands_13 _ _ _ _ _ _ ⟨fun q => absurd q (by omega), fun _ => ?_⟩
    rw [mmD_iff, mmD_iff, mAdd_ok (a := 1600) (by omega) (by omega), mAdd_ok (a := k) (by omega) (by omega)]
    exact ⟨by omega, by omega, st_322 hN j (k + 1) _ (by omega) (by omega) (by rw [mmS_cell (by decide)]; exact e5) (cpy_s c k0 (by omega)) hy⟩
theorem st_329 : ∀ (j : Nat) (k : Int) (g : mmH), 0 ≤ k → k + j = 210 → stZ k h g → (∀ h', stZ 210 h h' → qB tFM d k_m_stands n0 z0 Q 17 [(3, 282), (1, 0)] [] h') → qB tFM d k_m_stands n0 z0 Q 15 [(3, 282), (1, k)] [] g
  | 0, k, g, k0, hk, c, hy => by
    have e : k = 210 := by omega
    rw [e] at c
    exact T_m_stands_15 _ _ _ _ _ _ ⟨fun _ => hy g c, fun q => absurd (by omega) q⟩
  | j + 1, k, g, k0, hk, c, hy => by
    refine T_m_stands_15 _ _ _ _ _ _ ⟨fun q => absurd q (by omega), fun _ => ?_⟩
    rw [mmD_iff, mAdd_ok (a := k) (by omega) (by omega)]
    refine ⟨by omega, st_329 j (k + 1) _ (by omega) (by omega) ⟨c.1.put rfl, fun i i1 i2 => ?_⟩ hy⟩
    rw [mmS_slot]
    by_cases q : i = k
    · rw [if_pos q]
    · rw [if_neg q]; exact c.2 i i1 (by omega)
theorem st_lots {N : Int} (hN : N ≤ 10) : ∀ (j : Nat) (k : Int) (g : mmH), 0 ≤ k → k + j = N → g 313 1 = N → stL k h g → (∀ h', stL N h h' → qB tFM d k_m_stands n0 z0 Q 19 [(3, 282), (1, 0)] [] h') → qB tFM d k_m_stands n0 z0 Q 17 [(3, 282), (1, k)] [] g
  | 0, k, g, k0, hk, e5, c, hy => by
    have e : k = N := by omega
    rw [e] at c
    exact T_m_stands_17 _ _ _ _ _ _ ⟨fun _ => hy g c, fun q => absurd (by omega) q⟩
  | j + 1, k, g, k0, hk, e5, c, hy => by
    refine T_m_stands_17 _ _ _ _ _ _ ⟨fun q => absurd q (by omega), fun _ => ?_⟩
    rw [mmD_iff, mmD_iff, mMul_ok (by omega) (by omega), mAdd_ok (a := 5 * k) (by omega) (by omega), mAdd_ok (a := 2) (by omega) (by omega), mAdd_ok (a := k) (by omega) (by omega)]
    obtain ⟨c1, c2, c3⟩ := c
    have f : ∀ k i, ¬ (k = 329) → g k i = h k i := c1
    refine ⟨by omega, by omega, st_lots hN j (k + 1) _ (by omega) (by omega) (by rw [mmS_cell (by decide)]; exact e5) ⟨c1.put rfl, fun l l1 l2 => ?_, fun i hi => ?_⟩ hy⟩
    · rw [mmS_slot]
      by_cases q : l = k
      · rw [q, if_pos rfl]; exact f _ _ (by decide)
      · rw [if_neg (by omega)]; exact c2 l l1 (by omega)
    · rw [mmS_slot, if_neg (by omega)]; exact c3 i hi
theorem st_pers {N : Int} (hN : N ≤ 6) : ∀ (j : Nat) (k : Int) (g : mmH), 0 ≤ k → k + j = N → g 313 2 = N → stP k h g → (∀ h', stP N h h' → Q 0 (mmS h' 282 67 0)) → qB tFM d k_m_stands n0 z0 Q 19 [(3, 282), (1, k)] [] g
  | 0, k, g, k0, hk, e5, c, hy => by
    have e : k = N := by omega
    rw [e] at c
    exact T_m_stands_19 _ _ _ _ _ _ ⟨fun _ => hy g c, fun q => absurd (by omega) q⟩
  | j + 1, k, g, k0, hk, e5, c, hy => by
    refine T_m_stands_19 _ _ _ _ _ _ ⟨fun q => absurd q (by omega), fun _ => ?_⟩
    rw [mmD_iff, mmD_iff, mmD_iff, mmD_iff, mMul_ok (a := 6) (by omega) (by omega), mMul_ok (a := 2) (by omega) (by omega), mAdd_ok (a := 6 * k) (b := 4) (by omega) (by omega), mAdd_ok (a := 6 * k) (b := 5) (by omega) (by omega), mAdd_ok (a := 12) (by omega) (by omega), mAdd_ok (a := 12 + 2 * k) (by omega) (by omega), mAdd_ok (a := k) (by omega) (by omega)]
    obtain ⟨c1, c2, c3⟩ := c
    have f : ∀ k i, ¬ (k = 329) → g k i = h k i := c1
    refine ⟨by omega, by omega, by omega, by omega, st_pers hN j (k + 1) _ (by omega) (by omega) (by rw [mmS_cell (by decide), mmS_cell (by decide)]; exact e5) ⟨(c1.put rfl).put rfl, fun l l1 l2 => ?_, fun i hi => ?_⟩ hy⟩
    · rw [mmS_slot, mmS_slot, mmS_slot, mmS_slot]
      by_cases q : l = k
      · rw [q, if_neg (by omega), if_pos rfl, if_pos rfl]; exact ⟨f _ _ (by decide), f _ _ (by decide)⟩
      · rw [if_neg (by omega), if_neg (by omega), if_neg (by omega), if_neg (by omega)]; exact c2 l l1 (by omega)
    · rw [mmS_slot, mmS_slot, if_neg (by omega), if_neg (by omega)]; exact c3 i hi
/-- all that stands -/
def Stnd (h h' : mmH) : Prop := Fr (fun k i => TnM k i ∨ k = 329 ∨ (k = 282 ∧ i = 67)) h h' ∧
  ((∀ i, 0 ≤ i → i < 5 → h' 313 (5 + i) = h 313 i) ∧ (∀ i, 0 ≤ i → i < 30 → h' 314 (30 + i) = h 314 i) ∧ (∀ i, 0 ≤ i → i < 50 → h' 315 (50 + i) = h 315 i) ∧ (∀ i, 0 ≤ i → i < 100 → h' 316 (100 + i) = h 316 i) ∧ (∀ i, 0 ≤ i → i < 36 → h' 317 (36 + i) = h 317 i)) ∧
  (h' 318 1 = h 318 0 ∧ h' 319 1 = h 319 0) ∧
  (∀ i, 0 ≤ i → i < 8 → h' 320 (8 + i) = h 320 i ∧ h' 321 (8 + i) = h 321 i ∧ h' 324 (8 + i) = h 324 i ∧ h' 325 (8 + i) = h 325 i ∧ h' 326 (8 + i) = h 326 i) ∧
  (∀ i, 0 ≤ i → i < h 282 50 → h' 322 (1600 + i) = h 322 i) ∧
  ((∀ l, 0 ≤ l → l < h 313 1 → h' 329 (2 + l) = h 315 (5 * l + 2)) ∧ (∀ p, 0 ≤ p → p < h 313 2 → h' 329 (12 + 2 * p) = h 317 (6 * p + 4) ∧ h' 329 (12 + 2 * p + 1) = h 317 (6 * p + 5)) ∧ (∀ i, (0 ≤ i ∧ i < 2) ∨ (24 ≤ i ∧ i < 210) → h' 329 i = 0)) ∧ h' 282 67 = 0
set_option maxHeartbeats 4000000 in
theorem q_m_stands (n1 : 0 ≤ h 313 1 ∧ h 313 1 ≤ 10) (n2 : 0 ≤ h 313 2 ∧ h 313 2 ≤ 6) (n5 : 0 ≤ h 282 50 ∧ h 282 50 ≤ 1600) (hy : ∀ h', Stnd h h' → Q 0 h') : qC tFM (d + 1) k_m_stands [282] h Q := by
  refine qC_intro (T_m_stands_0 _ _ _ _ _ (st_313 5 0 h (by omega) (by omega) cpy_0 (fun a c1 => st_314 30 0 a (by omega) (by omega) cpy_0 (fun b c2 => st_315 50 0 b (by omega) (by omega) cpy_0 (fun c c3 => st_316 100 0 c (by omega) (by omega) cpy_0 (fun x c4 => st_317 36 0 x (by omega) (by omega) cpy_0 (fun y c5 => ?_)))))))
  have z1 : ∀ k i, k ≠ 318 → k ≠ 319 → mmS (mmS y 318 1 (y 318 0)) 319 1 (y 319 0) k i = y k i := fun k i q1 q2 => by rw [mmS_cell q2, mmS_cell q1]
  have z2 : mmS (mmS y 318 1 (y 318 0)) 319 1 (y 319 0) 318 1 = y 318 0 := by rw [mmS_cell (by decide), mmS_slot, if_pos rfl]
  have z3 : mmS (mmS y 318 1 (y 318 0)) 319 1 (y 319 0) 319 1 = y 319 0 := by rw [mmS_slot, if_pos rfl]
  have z4 : Fr (fun k i => (k = 318 ∨ k = 319) ∧ 1 ≤ i) y (mmS (mmS y 318 1 (y 318 0)) 319 1 (y 319 0)) := (Fr.rf.put ⟨Or.inl rfl, by decide⟩).put ⟨Or.inr rfl, by decide⟩
  generalize mmS (mmS y 318 1 (y 318 0)) 319 1 (y 319 0) = z at z1 z2 z3 z4
  have f1 : ∀ k i, ¬ (k = 313 ∧ 5 ≤ i) → a k i = h k i := c1.1
  have f2 : ∀ k i, ¬ (k = 314 ∧ 30 ≤ i) → b k i = a k i := c2.1
  have f3 : ∀ k i, ¬ (k = 315 ∧ 50 ≤ i) → c k i = b k i := c3.1
  have f4 : ∀ k i, ¬ (k = 316 ∧ 100 ≤ i) → x k i = c k i := c4.1
  have f5 : ∀ k i, ¬ (k = 317 ∧ 36 ≤ i) → y k i = x k i := c5.1
  have f6 : ∀ k i, ¬ ((k = 318 ∨ k = 319) ∧ 1 ≤ i) → z k i = y k i := z4
  have F6 : Fr (fun k i => TnM k i ∨ k = 329 ∨ (k = 282 ∧ i = 67)) h z := (((((c1.1.mono (fun k i q => Or.inl (by unfold TnM; omega))).tr (c2.1.mono (fun k i q => Or.inl (by unfold TnM; omega)))).tr (c3.1.mono (fun k i q => Or.inl (by unfold TnM; omega)))).tr (c4.1.mono (fun k i q => Or.inl (by unfold TnM; omega)))).tr (c5.1.mono (fun k i q => Or.inl (by unfold TnM; omega)))).tr (z4.mono (fun k i q => Or.inl (by unfold TnM; omega)))
  have g6 : ∀ k i, k < 313 ∨ 319 < k → z k i = h k i := fun k i q => by rw [f6 k i (by omega), f5 k i (by omega), f4 k i (by omega), f3 k i (by omega), f2 k i (by omega), f1 k i (by omega)]
  refine st_320 8 0 z (by omega) (by omega) cpL_0 (fun w c6 => ?_)
  have f7 : ∀ k i, ¬ ((k = 320 ∨ k = 321 ∨ k = 324 ∨ k = 325 ∨ k = 326) ∧ 8 ≤ i) → w k i = z k i := c6.1
  refine st_322 n5.2 (h 282 50).toNat 0 w (by omega) (by omega) (by rw [f7 _ _ (by omega), g6 _ _ (by omega)]) cpy_0 (fun r c7 => ?_)
  have f8 : ∀ k i, ¬ (k = 322 ∧ 1600 ≤ i) → r k i = w k i := c7.1
  refine st_329 210 0 r (by omega) (by omega) ⟨Fr.rf, fun i i1 i2 => by omega⟩ (fun s c8 => ?_)
  have f9 : ∀ k i, ¬ (k = 329) → s k i = r k i := c8.1
  have e1 : ∀ k i, k ≠ 329 → k ≠ 322 → ¬ ((k = 320 ∨ k = 321 ∨ k = 324 ∨ k = 325 ∨ k = 326) ∧ 8 ≤ i) → s k i = z k i := fun k i q1 q2 q3 => by rw [f9 k i q1, f8 k i (by omega), f7 k i q3]
  have y3 : ∀ k i, ¬ (k = 313 ∧ 5 ≤ i) → ¬ (k = 314 ∧ 30 ≤ i) → ¬ (k = 315 ∧ 50 ≤ i) → ¬ (k = 316 ∧ 100 ≤ i) → ¬ (k = 317 ∧ 36 ≤ i) → ¬ ((k = 318 ∨ k = 319) ∧ 1 ≤ i) → z k i = h k i := fun k i q1 q2 q3 q4 q5 q6 => by rw [f6 k i q6, f5 k i q5, f4 k i q4, f3 k i q3, f2 k i q2, f1 k i q1]
  have s1 : s 313 1 = h 313 1 := by rw [e1 _ _ (by decide) (by decide) (by omega), y3 _ _ (by omega) (by omega) (by omega) (by omega) (by omega) (by omega)]
  have s2 : s 313 2 = h 313 2 := by rw [e1 _ _ (by decide) (by decide) (by omega), y3 _ _ (by omega) (by omega) (by omega) (by omega) (by omega) (by omega)]
  refine st_lots n1.2 (h 313 1).toNat 0 s (by omega) (by omega) s1 ⟨Fr.rf, fun i i1 i2 => by omega, fun _ _ => rfl⟩ (fun t c9 => ?_)
  have f10 : ∀ k i, ¬ (k = 329) → t k i = s k i := c9.1
  refine st_pers n2.2 (h 313 2).toNat 0 t (by omega) (by omega) (by rw [f10 _ _ (by decide)]; exact s2) ⟨Fr.rf, fun i i1 i2 => by omega, fun _ _ => rfl⟩ (fun p cA => hy _ ?_)
  have f11 : ∀ k i, ¬ (k = 329) → p k i = t k i := cA.1
  have u1 : ∀ k i, k ≠ 282 → mmS p 282 67 0 k i = p k i := fun k i q => mmS_cell q
  have u2 : mmS p 282 67 0 282 67 = 0 := by rw [mmS_slot, if_pos rfl]
  have u3 : Fr (fun k i => TnM k i ∨ k = 329 ∨ (k = 282 ∧ i = 67)) p (mmS p 282 67 0) := Fr.rf.put (Or.inr (Or.inr ⟨rfl, rfl⟩))
  generalize mmS p 282 67 0 = f at u1 u2 u3
  have E : ∀ k i, k ≠ 282 → k ≠ 329 → k ≠ 322 → ¬ ((k = 320 ∨ k = 321 ∨ k = 324 ∨ k = 325 ∨ k = 326) ∧ 8 ≤ i) → f k i = z k i := fun k i q1 q2 q3 q4 => by rw [u1 k i q1, f11 k i q2, f10 k i q2, e1 k i q2 q3 q4]
  have E2 : ∀ k i, k ≠ 282 → k ≠ 329 → k ≠ 322 → f k i = w k i := fun k i q1 q2 q3 => by rw [u1 k i q1, f11 k i q2, f10 k i q2, f9 k i q2, f8 k i (by omega)]
  refine ⟨(((((F6.tr (c6.1.mono (fun k i q => Or.inl (by unfold TnM; omega)))).tr (c7.1.mono (fun k i q => Or.inl (by unfold TnM; omega)))).tr (c8.1.mono (fun k i q => Or.inr (Or.inl q)))).tr (c9.1.mono (fun k i q => Or.inr (Or.inl q)))).tr (cA.1.mono (fun k i q => Or.inr (Or.inl q)))).tr u3, ⟨fun i i1 i2 => ?_, fun i i1 i2 => ?_, fun i i1 i2 => ?_, fun i i1 i2 => ?_, fun i i1 i2 => ?_⟩, ⟨?_, ?_⟩, fun i i1 i2 => ?_, fun i i1 i2 => ?_, ⟨fun l l1 l2 => ?_, fun q q1 q2 => ?_, fun i hi => ?_⟩, u2⟩
  · rw [E _ _ (by decide) (by decide) (by decide) (by omega), f6 _ _ (by omega), f5 _ _ (by omega), f4 _ _ (by omega), f3 _ _ (by omega), f2 _ _ (by omega), c1.2 i i1 i2]
  · rw [E _ _ (by decide) (by decide) (by decide) (by omega), f6 _ _ (by omega), f5 _ _ (by omega), f4 _ _ (by omega), f3 _ _ (by omega), c2.2 i i1 i2, f1 _ _ (by omega)]
  · rw [E _ _ (by decide) (by decide) (by decide) (by omega), f6 _ _ (by omega), f5 _ _ (by omega), f4 _ _ (by omega), c3.2 i i1 i2, f2 _ _ (by omega), f1 _ _ (by omega)]
  · rw [E _ _ (by decide) (by decide) (by decide) (by omega), f6 _ _ (by omega), f5 _ _ (by omega), c4.2 i i1 i2, f3 _ _ (by omega), f2 _ _ (by omega), f1 _ _ (by omega)]
  · rw [E _ _ (by decide) (by decide) (by decide) (by omega), f6 _ _ (by omega), c5.2 i i1 i2, f4 _ _ (by omega), f3 _ _ (by omega), f2 _ _ (by omega), f1 _ _ (by omega)]
  · rw [E _ _ (by decide) (by decide) (by decide) (by omega), z2, f5 _ _ (by omega), f4 _ _ (by omega), f3 _ _ (by omega), f2 _ _ (by omega), f1 _ _ (by omega)]
  · rw [E _ _ (by decide) (by decide) (by decide) (by omega), z3, f5 _ _ (by omega), f4 _ _ (by omega), f3 _ _ (by omega), f2 _ _ (by omega), f1 _ _ (by omega)]
  · rw [E2 _ _ (by decide) (by decide) (by decide), E2 _ _ (by decide) (by decide) (by decide), E2 _ _ (by decide) (by decide) (by decide), E2 _ _ (by decide) (by decide) (by decide), E2 _ _ (by decide) (by decide) (by decide), ← g6 320 i (by omega), ← g6 321 i (by omega), ← g6 324 i (by omega), ← g6 325 i (by omega), ← g6 326 i (by omega)]
    exact c6.2 i i1 i2
  · rw [u1 _ _ (by decide), f11 _ _ (by decide), f10 _ _ (by decide), f9 _ _ (by decide), c7.2 i i1 i2, f7 _ _ (by omega), g6 _ _ (by omega)]
  · rw [u1 _ _ (by decide), cA.2.2 _ (by omega), c9.2.1 l l1 l2, e1 _ _ (by decide) (by decide) (by omega), y3 _ _ (by omega) (by omega) (by omega) (by omega) (by omega) (by omega)]
  · rw [u1 _ _ (by decide), u1 _ _ (by decide), (cA.2.1 q q1 q2).1, (cA.2.1 q q1 q2).2, f10 _ _ (by decide), f10 _ _ (by decide), e1 _ _ (by decide) (by decide) (by omega), e1 _ _ (by decide) (by decide) (by omega), y3 _ _ (by omega) (by omega) (by omega) (by omega) (by omega) (by omega), y3 _ _ (by omega) (by omega) (by omega) (by omega) (by omega) (by omega)]
    exact ⟨rfl, rfl⟩
  · rw [u1 _ _ (by decide), cA.2.2 _ (by omega), c9.2.2 _ (by omega), c8.2 _ (by omega) (by omega)]
end SD
