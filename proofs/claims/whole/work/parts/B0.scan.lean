/-! ===== mm: reading a text: what each step leaves, as heaps ===== -/
def isBk (c : Int) : Bool := decide (c = 32 ∨ c = 10)
def isLt (c : Int) : Bool := decide (97 ≤ c ∧ c ≤ 122)
def isDg (c : Int) : Bool := decide (48 ≤ c ∧ c ≤ 57)
/-- the first place from i on, behind m steps at most, where p doesn't hold -/
def runE (p : Int → Bool) (B : Int → Int) : Nat → Int → Int
  | 0, i => i
  | m + 1, i => if p (B i) = true then runE p B m (i + 1) else i
def runT (p : Int → Bool) (B : Int → Int) (n i : Int) : Int := runE p B (n - i).toNat i
section RE
variable {p : Int → Bool} {B : Int → Int}
theorem runE_ge : ∀ (m : Nat) (i : Int), i ≤ runE p B m i ∧ runE p B m i ≤ i + m
  | 0, i => by unfold runE; omega
  | m + 1, i => by
    have := runE_ge m (i + 1)
    unfold runE
    split <;> omega
theorem runE_all : ∀ (m : Nat) (i j : Int), i ≤ j → j < runE p B m i → p (B j) = true
  | 0, i, j, h1, h2 => by unfold runE at h2; omega
  | m + 1, i, j, h1, h2 => by
    unfold runE at h2
    split at h2
    · next q =>
      by_cases e : j = i
      · rw [e]; exact q
      · exact runE_all m (i + 1) j (by omega) h2
    · omega
theorem runE_end : ∀ (m : Nat) (i : Int), runE p B m i = i + m ∨ p (B (runE p B m i)) = false
  | 0, i => by unfold runE; left; omega
  | m + 1, i => by
    unfold runE
    by_cases q : p (B i) = true
    · rw [if_pos q]
      rcases runE_end m (i + 1) with h | h
      · left; omega
      · right; exact h
    · rw [if_neg q]
      right
      exact Bool.eq_false_iff.mpr q
theorem runT_ge {n i : Int} (h : i ≤ n) : i ≤ runT p B n i ∧ runT p B n i ≤ n := by
  have := runE_ge (p := p) (B := B) (n - i).toNat i
  unfold runT
  omega
theorem runT_all {n i j : Int} (h1 : i ≤ j) (h2 : j < runT p B n i) : p (B j) = true := runE_all _ i j h1 h2
theorem runT_end {n i : Int} (h : i ≤ n) : runT p B n i = n ∨ (runT p B n i < n ∧ p (B (runT p B n i)) = false) := by
  have h1 := runE_end (p := p) (B := B) (n - i).toNat i
  have h2 := runE_ge (p := p) (B := B) (n - i).toNat i
  unfold runT
  rcases h1 with q | q
  · left; omega
  · by_cases e : runE p B (n - i).toNat i = n
    · left; exact e
    · right; exact ⟨by omega, q⟩
theorem runT_stay {n i : Int} (h : n ≤ i ∨ p (B i) = false) : runT p B n i = i := by
  unfold runT
  rcases h with h | h
  · rw [show (n - i).toNat = 0 by omega]; rfl
  · cases (n - i).toNat with
    | zero => rfl
    | succ m => unfold runE; rw [h]; rfl
theorem runT_step {n i : Int} (h : i < n) (q : p (B i) = true) : runT p B n i = runT p B n (i + 1) := by
  unfold runT
  rw [show (n - i).toNat = (n - (i + 1)).toNat + 1 by omega]
  show (if p (B i) = true then runE p B (n - (i + 1)).toNat (i + 1) else i) = _
  rw [if_pos q]
theorem runT_twice {n i : Int} (h : i ≤ n) : runT p B n (runT p B n i) = runT p B n i := by
  rcases runT_end (p := p) (B := B) h with q | q
  · exact runT_stay (Or.inl (by omega))
  · exact runT_stay (Or.inr q.2)
end RE
/-- letters from i on, a 1 -/
def ltrs (B : Int → Int) (i : Int) : Nat → List Int
  | 0 => []
  | m + 1 => (B i - 96) :: ltrs B (i + 1) m
def skH (g : mmH) : mmH := mmS g 3 4 (runT isBk (g 2) (g 3 3) (g 3 4))
def leV (g : mmH) : Int := runT isLt (g 2) (g 3 3) (g 3 4)
def hrV (g : mmH) : Int := if g 3 4 < g 3 3 then g 2 (g 3 4) else -1
def pkV (g : mmH) : Int := pk5 (ltrs (g 2) (g 3 4) (leV g - g 3 4).toNat)
/-- the first place of x among m from k on -/
def plcE (B : Int → Int) (x : Int) : Nat → Int → Int
  | 0, _ => -1
  | m + 1, k => if B k = x then k else plcE B x m (k + 1)
def wdV (g : mmH) : Int := if leV g = g 3 4 ∨ 6 < leV g - g 3 4 ∨ g 3 4 = g 3 6 then -1 else plcE (g 45) (pkV g) 29 0
def psH (g : mmH) : mmH := mmS (mmS g 3 4 (leV g)) 3 6 (leV g)
def flH (w p : Int) (g : mmH) : mmH := if g 3 0 ≠ 0 then g else mmS (mmS g 3 0 w) 3 1 p
def stpH (g : mmH) : mmH := mmS g 3 4 (g 3 4 + 1)
def twH (w : Int) (g : mmH) : mmH := if wdV (skH g) = w then psH (skH g) else flH 1 (skH g 3 4) (skH g)
def tsH (c : Int) (g : mmH) : mmH := if hrV (skH g) = c then stpH (skH g) else flH 1 (skH g 3 4) (skH g)
/-- digits' worth -/
def dgV (B : Int → Int) : Nat → Int → Int → Int
  | 0, _, v => v
  | m + 1, i, v => dgV B m (i + 1) (10 * v + B i - 48)
def nuE (g : mmH) : Int := runE isDg (g 2) (if g 3 3 - g 3 4 < 4 then (g 3 3 - g 3 4).toNat else 4) (g 3 4)
def nuV (g : mmH) : Int := dgV (g 2) (nuE g - g 3 4).toNat (g 3 4) 0
def nuT (g : mmH) : mmH := mmS (mmS g 3 4 (nuE g)) 3 6 (nuE g)
def nuF (lo hi : Int) (g : mmH) : mmH := if nuE g = g 3 4 ∨ g 3 4 = g 3 6 then flH 1 (g 3 4) (nuT g) else if isDg (hrV (nuT g)) = true then flH 1 (nuE g) (nuT g) else if nuV g < lo ∨ hi < nuV g then flH 2 (g 3 4) (nuT g) else nuT g
def nuH (lo hi : Int) (g : mmH) : mmH := nuF lo hi (skH g)
def nmS (g : mmH) : mmH := mmS (skH g) 3 5 (skH g 3 4)
/-- whether a name can stand here -/
def nmB (g : mmH) : Bool := decide (¬ (leV g = g 3 4 ∨ g 3 4 = g 3 6) ∧ ¬ 6 < leV g - g 3 4 ∧ wdV g = -1)
def nmX (g : mmH) : Int := if nmB (nmS g) = true then pkV (nmS g) else 0
def nmF (g : mmH) : mmH := if nmB g = true then psH g else if leV g = g 3 4 ∨ g 3 4 = g 3 6 then flH 1 (g 3 4) g else if 6 < leV g - g 3 4 then flH 1 (g 3 4 + 6) g else flH 1 (g 3 4) g
def nmH (g : mmH) : mmH := nmF (nmS g)
def rfH (b : Bool) (g : mmH) : mmH := if b = true then flH 3 (g 3 5) g else g
def mayH (o : Int) (g : mmH) : mmH := if o < 6 then g else flH 4 (g 3 4) g
def putT (v t : Int) (g : mmH) : mmH := if g (v + 33) 1 < 1600 then mmS (mmS g (v + 38) (g (v + 33) 1) t) (v + 33) 1 (g (v + 33) 1 + 1) else g
def isFc (w : Int) : Bool := decide (w = 11 ∨ w = 14 ∨ w = 3 ∨ w = 4 ∨ w = 22)
def pairF (inner : mmH → mmH) (o : Int) (g : mmH) : mmH :=
  if hrV (skH g) = 40 then (if mayH o (skH g) 3 0 ≠ 0 then mayH o (skH g) else tsH 41 (inner (tsH 44 (inner (tsH 40 (mayH o (skH g))))))) else flH 1 (skH g 3 4) (skH g)
def partF (v : Int) (inner : mmH → mmH) (o : Int) (g : mmH) : mmH :=
  if g 3 0 ≠ 0 then g else if isDg (hrV (skH g)) = true then putT v (nuV (skH (skH g))) (nuH 0 9999 (skH g)) else
  if hrV (skH g) = 40 then (if mayH o (skH g) 3 0 ≠ 0 then mayH o (skH g) else tsH 41 (inner (tsH 40 (mayH o (skH g))))) else
  if wdV (skH g) = 27 ∨ wdV (skH g) = 28 then putT v (10200 + wdV (skH g)) (pairF inner o (psH (skH g))) else
  if isFc (wdV (skH g)) = true then putT v (10200 + wdV (skH g)) (psH (skH g)) else flH 1 (skH g 3 4) (skH g)
def lopF (v : Int) (p : mmH → mmH) (c1 c2 : Int) : Nat → mmH → mmH
  | 0, g => g
  | m + 1, g => if g 3 0 ≠ 0 then g else if hrV (skH g) = c1 ∨ hrV (skH g) = c2 then lopF v p c1 c2 m (putT v (10000 + hrV (skH g)) (p (stpH (skH g)))) else skH g
def prdF (v : Int) (p : mmH → mmH) (g : mmH) : mmH := lopF v p 42 47 1600 (p g)
def smF (v : Int) (p : mmH → mmH) (g : mmH) : mmH := lopF v (prdF v p) 43 45 1600 (prdF v p g)
def smL (v : Int) : Nat → Int → mmH → mmH
  | 0, _, g => g
  | n + 1, o, g => smF v (partF v (smL v n (o + 1)) o) g
def cmpF (v : Int) (sm : mmH → mmH) (g : mmH) : mmH :=
  if hrV (skH (sm g)) = 60 ∨ hrV (skH (sm g)) = 62 ∨ hrV (skH (sm g)) = 61 then putT v (10000 + hrV (skH (sm g))) (sm (stpH (skH (sm g)))) else flH 1 (skH (sm g) 3 4) (skH (sm g))
def wlpF (v : Int) (p : mmH → mmH) (w t : Int) : Nat → mmH → mmH
  | 0, g => g
  | m + 1, g => if g 3 0 ≠ 0 then g else if wdV (skH g) = w then wlpF v p w t m (putT v t (p (psH (skH g)))) else skH g
def btF (v : Int) (f : mmH → mmH) (g : mmH) : mmH := wlpF v f 24 10224 1600 (f g)
def teF (v : Int) (f : mmH → mmH) (g : mmH) : mmH := wlpF v (btF v f) 23 10223 1600 (btF v f g)
def fcF (v : Int) (fi ti cm : mmH → mmH) (o : Int) (g : mmH) : mmH :=
  if g 3 0 ≠ 0 then g else if wdV (skH g) = 25 then (if mayH o (skH g) 3 0 ≠ 0 then mayH o (skH g) else putT v 10225 (fi (psH (mayH o (skH g))))) else
  if wdV (skH g) = 26 then putT v 10226 (psH (skH g)) else
  if hrV (skH g) = 91 then (if mayH o (skH g) 3 0 ≠ 0 then mayH o (skH g) else tsH 93 (ti (tsH 91 (mayH o (skH g))))) else cm (skH g)
def fcL (v : Int) : Nat → Int → mmH → mmH
  | 0, _, g => g
  | n + 1, o, g => fcF v (fcL v n (o + 1)) (teF v (fcL v n (o + 1))) (cmpF v (smL v 7 o)) o g
/-- what reading rests on -/
def Sc (v : Int) (g : mmH) : Prop := g 3 2 = 2 ∧ (0 ≤ g 3 4 ∧ g 3 4 ≤ g 3 3 ∧ g 3 3 ≤ 1600) ∧ (∀ i, 0 ≤ i → i < 1600 → 0 ≤ g 2 i ∧ g 2 i ≤ 255) ∧ (0 ≤ g (v + 33) 1 ∧ g (v + 33) 1 ≤ 1600) ∧ (∀ k, 0 ≤ k → k < 29 → g 45 k = owL.getD k.toNat 0)
/-- what reading writes -/
def ScK (v k i : Int) : Prop := (k = 3 ∧ (i = 0 ∨ i = 1 ∨ i = 4 ∨ i = 5 ∨ i = 6)) ∨ k = v + 38 ∨ (k = v + 33 ∧ i = 1)
section SC
variable {v : Int} {g g' : mmH}
theorem Sc_at {a : Int} (hv : v = 5 ∨ v = 46) (hS : Sc v g) (h1 : 0 ≤ a) (h2 : a ≤ g 3 3) : Sc v (mmS g 3 4 a) := by
  obtain ⟨s1, s2, s3, s4, s5⟩ := hS
  refine ⟨?_, ⟨?_, ?_, ?_⟩, fun i i1 i2 => ?_, ?_, fun k k1 k2 => ?_⟩
  · rw [mmS_slot, if_neg (by omega)]; exact s1
  · rw [mmS_slot, if_pos rfl]; exact h1
  · rw [mmS_slot, if_pos rfl, mmS_slot, if_neg (by omega)]; exact h2
  · rw [mmS_slot, if_neg (by omega)]; exact s2.2.2
  · rw [mmS_cell (by omega)]; exact s3 i i1 i2
  · rw [mmS_cell (by omega)]; exact s4
  · rw [mmS_cell (by omega)]; exact s5 k k1 k2
theorem Sc_el {a i : Int} (hv : v = 5 ∨ v = 46) (hS : Sc v g) (hi : i = 0 ∨ i = 1 ∨ i = 5 ∨ i = 6) : Sc v (mmS g 3 i a) := by
  obtain ⟨s1, s2, s3, s4, s5⟩ := hS
  refine ⟨?_, ⟨?_, ?_, ?_⟩, fun i i1 i2 => ?_, ?_, fun k k1 k2 => ?_⟩
  · rw [mmS_slot, if_neg (by omega)]; exact s1
  · rw [mmS_slot, if_neg (by omega)]; exact s2.1
  · rw [mmS_slot, if_neg (by omega), mmS_slot, if_neg (by omega)]; exact s2.2.1
  · rw [mmS_slot, if_neg (by omega)]; exact s2.2.2
  · rw [mmS_cell (by omega)]; exact s3 i i1 i2
  · rw [mmS_cell (by omega)]; exact s4
  · rw [mmS_cell (by omega)]; exact s5 k k1 k2
theorem skH_at (hS : Sc v g) : g 3 4 ≤ skH g 3 4 ∧ skH g 3 4 ≤ g 3 3 := by
  unfold skH
  rw [mmS_slot, if_pos rfl]
  exact runT_ge hS.2.1.2.1
theorem Sc_sk (hv : v = 5 ∨ v = 46) (hS : Sc v g) : Sc v (skH g) := by
  have := runT_ge (p := isBk) (B := g 2) hS.2.1.2.1
  have := hS.2.1.1
  exact Sc_at hv hS (by omega) (by omega)
theorem leV_ge (hS : Sc v g) : g 3 4 ≤ leV g ∧ leV g ≤ g 3 3 := runT_ge hS.2.1.2.1
theorem Sc_ps (hv : v = 5 ∨ v = 46) (hS : Sc v g) : Sc v (psH g) := by
  have := leV_ge hS
  have := hS.2.1.1
  exact Sc_el hv (Sc_at hv hS (by omega) (by omega)) (by omega)
theorem Sc_fl {w p : Int} (hv : v = 5 ∨ v = 46) (hS : Sc v g) : Sc v (flH w p g) := by
  unfold flH
  split
  · exact hS
  · exact Sc_el hv (Sc_el hv hS (by omega)) (by omega)
theorem hrV_lt {c : Int} (h : hrV g = c) (hc : c ≠ -1) : g 3 4 < g 3 3 ∧ g 2 (g 3 4) = c := by
  unfold hrV at h
  split at h
  · next q => exact ⟨q, h⟩
  · exact absurd h.symm hc
theorem hrV_ok (hS : Sc v g) : -1 ≤ hrV g ∧ hrV g ≤ 255 := by
  unfold hrV
  split
  · next q => have := hS.2.2.1 (g 3 4) hS.2.1.1 (by have := hS.2.1; omega); omega
  · omega
theorem Sc_stp (hv : v = 5 ∨ v = 46) (hS : Sc v g) (h : g 3 4 < g 3 3) : Sc v (stpH g) := Sc_at hv hS (by have := hS.2.1; omega) (by omega)
theorem Sc_tw {w : Int} (hv : v = 5 ∨ v = 46) (hS : Sc v g) : Sc v (twH w g) := by
  unfold twH
  split
  · exact Sc_ps hv (Sc_sk hv hS)
  · exact Sc_fl hv (Sc_sk hv hS)
theorem Sc_ts {c : Int} (hv : v = 5 ∨ v = 46) (hc : c ≠ -1) (hS : Sc v g) : Sc v (tsH c g) := by
  unfold tsH
  split
  · next q => exact Sc_stp hv (Sc_sk hv hS) (hrV_lt q hc).1
  · exact Sc_fl hv (Sc_sk hv hS)
theorem nuE_ge (hS : Sc v g) : g 3 4 ≤ nuE g ∧ nuE g ≤ g 3 3 ∧ nuE g ≤ g 3 4 + 4 := by
  have s := hS.2.1
  unfold nuE
  split
  · have := runE_ge (p := isDg) (B := g 2) (g 3 3 - g 3 4).toNat (g 3 4)
    omega
  · have := runE_ge (p := isDg) (B := g 2) 4 (g 3 4)
    omega
theorem Sc_nuT (hv : v = 5 ∨ v = 46) (hS : Sc v g) : Sc v (nuT g) := by
  have := nuE_ge hS
  have := hS.2.1
  exact Sc_el hv (Sc_at hv hS (by omega) (by omega)) (by omega)
theorem Sc_nu {lo hi : Int} (hv : v = 5 ∨ v = 46) (hS : Sc v g) : Sc v (nuH lo hi g) := by
  have h := Sc_nuT hv (Sc_sk hv hS)
  unfold nuH nuF
  split
  · exact Sc_fl hv h
  · split
    · exact Sc_fl hv h
    · split
      · exact Sc_fl hv h
      · exact h
theorem Sc_nmS (hv : v = 5 ∨ v = 46) (hS : Sc v g) : Sc v (nmS g) := Sc_el hv (Sc_sk hv hS) (by omega)
theorem Sc_nm (hv : v = 5 ∨ v = 46) (hS : Sc v g) : Sc v (nmH g) := by
  have h := Sc_nmS hv hS
  unfold nmH nmF
  split
  · exact Sc_ps hv h
  · split
    · exact Sc_fl hv h
    · split
      · exact Sc_fl hv h
      · exact Sc_fl hv h
theorem Sc_rf {b : Bool} (hv : v = 5 ∨ v = 46) (hS : Sc v g) : Sc v (rfH b g) := by
  unfold rfH
  split
  · exact Sc_fl hv hS
  · exact hS
theorem Sc_may {o : Int} (hv : v = 5 ∨ v = 46) (hS : Sc v g) : Sc v (mayH o g) := by
  unfold mayH
  split
  · exact hS
  · exact Sc_fl hv hS
theorem Sc_put {t : Int} (hv : v = 5 ∨ v = 46) (hS : Sc v g) : Sc v (putT v t g) := by
  unfold putT
  split
  · next q =>
    obtain ⟨s1, s2, s3, s4, s5⟩ := hS
    refine ⟨?_, ?_, fun i i1 i2 => ?_, ⟨?_, ?_⟩, fun k k1 k2 => ?_⟩
    · rw [mmS_cell (by omega), mmS_cell (by omega)]; exact s1
    · rw [mmS_cell (by omega), mmS_cell (by omega), mmS_cell (by omega), mmS_cell (by omega)]; exact s2
    · rw [mmS_cell (by omega), mmS_cell (by omega)]; exact s3 i i1 i2
    · rw [mmS_slot, if_pos rfl]; omega
    · rw [mmS_slot, if_pos rfl]; omega
    · rw [mmS_cell (by omega), mmS_cell (by omega)]; exact s5 k k1 k2
  · exact hS
theorem Sc_pair {inner : mmH → mmH} {o : Int} (hv : v = 5 ∨ v = 46) (hi : ∀ g, Sc v g → Sc v (inner g)) (hS : Sc v g) : Sc v (pairF inner o g) := by
  have h := Sc_sk hv hS
  have hm := Sc_may (o := o) hv h
  unfold pairF
  split
  · split
    · exact hm
    · exact Sc_ts hv (by omega) (hi _ (Sc_ts hv (by omega) (hi _ (Sc_ts hv (by omega) hm))))
  · exact Sc_fl hv h
theorem Sc_part {inner : mmH → mmH} {o : Int} (hv : v = 5 ∨ v = 46) (hi : ∀ g, Sc v g → Sc v (inner g)) (hS : Sc v g) : Sc v (partF v inner o g) := by
  have h := Sc_sk hv hS
  have hm := Sc_may (o := o) hv h
  unfold partF
  split
  · exact hS
  · split
    · exact Sc_put hv (Sc_nu hv h)
    · split
      · split
        · exact hm
        · exact Sc_ts hv (by omega) (hi _ (Sc_ts hv (by omega) hm))
      · split
        · exact Sc_put hv (Sc_pair hv hi (Sc_ps hv h))
        · split
          · exact Sc_put hv (Sc_ps hv h)
          · exact Sc_fl hv h
theorem Sc_lop {p : mmH → mmH} {c1 c2 : Int} (hv : v = 5 ∨ v = 46) (q1 : c1 ≠ -1) (q2 : c2 ≠ -1) (hp : ∀ g, Sc v g → Sc v (p g)) : ∀ (m : Nat) (g : mmH), Sc v g → Sc v (lopF v p c1 c2 m g)
  | 0, _, hS => hS
  | m + 1, g, hS => by
    have h := Sc_sk hv hS
    unfold lopF
    split
    · exact hS
    · split
      · next q =>
        have hl : skH g 3 4 < skH g 3 3 := by
          rcases q with q | q
          · exact (hrV_lt q q1).1
          · exact (hrV_lt q q2).1
        exact Sc_lop hv q1 q2 hp m _ (Sc_put hv (hp _ (Sc_stp hv h hl)))
      · exact h
theorem Sc_prd {p : mmH → mmH} (hv : v = 5 ∨ v = 46) (hp : ∀ g, Sc v g → Sc v (p g)) (hS : Sc v g) : Sc v (prdF v p g) := Sc_lop hv (by omega) (by omega) hp _ _ (hp _ hS)
theorem Sc_smF {p : mmH → mmH} (hv : v = 5 ∨ v = 46) (hp : ∀ g, Sc v g → Sc v (p g)) (hS : Sc v g) : Sc v (smF v p g) := Sc_lop hv (by omega) (by omega) (fun _ q => Sc_prd hv hp q) _ _ (Sc_prd hv hp hS)
theorem Sc_sm (hv : v = 5 ∨ v = 46) : ∀ (n : Nat) (o : Int) (g : mmH), Sc v g → Sc v (smL v n o g)
  | 0, _, _, hS => hS
  | n + 1, o, _, hS => Sc_smF hv (fun _ q => Sc_part hv (Sc_sm hv n (o + 1)) q) hS
theorem Sc_cmp {sm : mmH → mmH} (hv : v = 5 ∨ v = 46) (hs : ∀ g, Sc v g → Sc v (sm g)) (hS : Sc v g) : Sc v (cmpF v sm g) := by
  have h := Sc_sk hv (hs _ hS)
  unfold cmpF
  split
  · next q =>
    have hl : skH (sm g) 3 4 < skH (sm g) 3 3 := by
      rcases q with q | q | q
      · exact (hrV_lt q (by omega)).1
      · exact (hrV_lt q (by omega)).1
      · exact (hrV_lt q (by omega)).1
    exact Sc_put hv (hs _ (Sc_stp hv h hl))
  · exact Sc_fl hv h
theorem Sc_wlp {p : mmH → mmH} {w t : Int} (hv : v = 5 ∨ v = 46) (hp : ∀ g, Sc v g → Sc v (p g)) : ∀ (m : Nat) (g : mmH), Sc v g → Sc v (wlpF v p w t m g)
  | 0, _, hS => hS
  | m + 1, g, hS => by
    have h := Sc_sk hv hS
    unfold wlpF
    split
    · exact hS
    · split
      · exact Sc_wlp hv hp m _ (Sc_put hv (hp _ (Sc_ps hv h)))
      · exact h
theorem Sc_bt {f : mmH → mmH} (hv : v = 5 ∨ v = 46) (hf : ∀ g, Sc v g → Sc v (f g)) (hS : Sc v g) : Sc v (btF v f g) := Sc_wlp hv hf _ _ (hf _ hS)
theorem Sc_te {f : mmH → mmH} (hv : v = 5 ∨ v = 46) (hf : ∀ g, Sc v g → Sc v (f g)) (hS : Sc v g) : Sc v (teF v f g) := Sc_wlp hv (fun _ q => Sc_bt hv hf q) _ _ (Sc_bt hv hf hS)
theorem Sc_fc (hv : v = 5 ∨ v = 46) : ∀ (n : Nat) (o : Int) (g : mmH), Sc v g → Sc v (fcL v n o g)
  | 0, _, _, hS => hS
  | n + 1, o, g, hS => by
    have h := Sc_sk hv hS
    have hm := Sc_may (o := o) hv h
    have hf := Sc_fc hv n (o + 1)
    unfold fcL fcF
    split
    · exact hS
    · split
      · split
        · exact hm
        · exact Sc_put hv (hf _ (Sc_ps hv hm))
      · split
        · exact Sc_put hv (Sc_ps hv h)
        · split
          · split
            · exact hm
            · exact Sc_ts hv (by omega) (Sc_te hv hf (Sc_ts hv (by omega) hm))
          · exact Sc_cmp hv (Sc_sm hv 7 o) h
end SC
