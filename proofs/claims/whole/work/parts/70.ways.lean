/-! ===== mm: ways, by themselves: rounds of shortening come to rest ===== -/
/-- how many below n have p -/
def cN (p : Int → Bool) : Nat → Nat
  | 0 => 0
  | n + 1 => cN p n + (bif p (n : Int) then 1 else 0)
theorem cN_le (p : Int → Bool) : ∀ n, cN p n ≤ n
  | 0 => Nat.le_refl _
  | n + 1 => by
    have := cN_le p n
    unfold cN
    cases p (n : Int) <;> simp <;> omega
theorem cN_mono {p q : Int → Bool} : ∀ (n : Nat), (∀ x : Int, 0 ≤ x → x < n → p x = true → q x = true) → cN p n ≤ cN q n
  | 0, _ => Nat.le_refl _
  | n + 1, h => by
    have := cN_mono n (fun x h1 h2 => h x h1 (by omega))
    have h3 := h (n : Int) (by omega) (by omega)
    unfold cN
    cases e : p (n : Int) with
    | false => simp; omega
    | true => rw [h3 e]; simp; omega
theorem cN_lt {p q : Int → Bool} {y : Int} : ∀ (n : Nat), (∀ x : Int, 0 ≤ x → x < n → p x = true → q x = true) → 0 ≤ y → y < n → p y = false → q y = true → cN p n + 1 ≤ cN q n
  | 0, _, h1, h2, _, _ => by omega
  | n + 1, h, h1, h2, h3, h4 => by
    unfold cN
    by_cases e : y = (n : Int)
    · have := cN_mono n (fun x a b => h x a (by omega))
      rw [← e, h3, h4]
      simp; omega
    · have := cN_lt n (fun x a b => h x a (by omega)) h1 (by omega) h3 h4
      have h5 := h (n : Int) (by omega) (by omega)
      cases e2 : p (n : Int) with
      | false => simp; omega
      | true => rw [h5 e2]; simp; omega
theorem cN_lt_n {p : Int → Bool} {n : Nat} {y : Int} (h1 : 0 ≤ y) (h2 : y < n) (h3 : p y = false) : cN p n + 1 ≤ n := by
  have := cN_lt (q := fun _ => true) n (fun _ _ _ _ => rfl) h1 h2 h3 rfl
  have := cN_le (fun _ => true) n
  omega
/-- coins and steps in one number -/
def ky (p : Int × Int) : Int := 16 * p.1 + p.2
abbrev wV : Type := Int → Int × Int
def wFar : Int × Int := (1000000, 1000000)
section WY
variable (n : Int) (E : Int → Int → Bool) (w : Int → Int) (last : Int)
def rx (a b : Int) (V : wV) : wV :=
  if E a b = true ∧ (V b).1 ≠ 1000000 ∧ ky (V b) + 16 * w b + 1 < ky (V a) then (fun x => if x = a then ((V b).1 + w b, (V b).2 + 1) else V x) else V
def rxRow (a : Int) (V : wV) : wV := upTo (fun b V => rx E w a b V) 0 n V
def rxRnd (V : wV) : wV := upTo (fun a V => rxRow n E w a V) 0 n V
def rxs (k : Nat) (V : wV) : wV := upI (fun _ V => rxRnd n E w V) k 0 V
def wV0 : wV := fun x => if x = last then (0, 0) else wFar
/-- from each lot to the last one: coins and steps -/
def dis : wV := rxs n E w n.toNat (wV0 last)
def rk (V : wV) (x : Int) : Nat := cN (fun y => decide (ky (V y) < ky (V x))) n.toNat
/-- what holds all the way -/
def wInv (V : wV) : Prop :=
  (∀ x, 0 ≤ x → x < n → V x = wFar ∨ (0 ≤ (V x).1 ∧ (V x).1 ≤ 999 * (V x).2 ∧ 0 ≤ (V x).2 ∧ (V x).2 ≤ rk n V x)) ∧ V last = (0, 0) ∧
  (∀ x, 0 ≤ x → x < n → x ≠ last → V x ≠ wFar → 1 ≤ (V x).2 ∧ ∃ y, 0 ≤ y ∧ y < n ∧ E x y = true ∧ V y ≠ wFar ∧ ky (V y) + 16 * w y + 1 ≤ ky (V x))
end WY
section WZ
variable {n : Int} {E : Int → Int → Bool} {w : Int → Int} {last : Int}
theorem rk_lt {V : wV} {x : Int} (h1 : 0 ≤ x) (h2 : x < n) : rk n V x + 1 ≤ n.toNat :=
  cN_lt_n (y := x) h1 (by omega) (by simp)
/-- a lot that is within reach: small numbers -/
theorem wInv_fin {V : wV} (hI : wInv n E w last V) (hn : n ≤ 10) {x : Int} (h1 : 0 ≤ x) (h2 : x < n) (hf : V x ≠ wFar) : 0 ≤ (V x).1 ∧ (V x).1 ≤ 8991 ∧ 0 ≤ (V x).2 ∧ (V x).2 < n := by
  rcases hI.1 x h1 h2 with h | ⟨a, b, c, e⟩
  · exact absurd h hf
  · have := rk_lt (n := n) (V := V) h1 h2
    omega
theorem wFar_iff {V : wV} (hI : wInv n E w last V) (hn : n ≤ 10) {x : Int} (h1 : 0 ≤ x) (h2 : x < n) : (V x).1 = 1000000 ↔ V x = wFar := by
  constructor
  · intro h
    by_cases hf : V x = wFar
    · exact hf
    · have := wInv_fin hI hn h1 h2 hf
      omega
  · intro h; rw [h]; rfl
theorem wV0_inv (hl1 : 0 ≤ last) (hl2 : last < n) : wInv n E w last (wV0 last) := by
  refine ⟨fun x h1 h2 => ?_, by simp [wV0], fun x h1 h2 h3 h4 => ?_⟩
  · by_cases e : x = last
    · right
      subst e
      simp [wV0]
    · left; simp [wV0, e]
  · exact absurd (by simp [wV0, h3]) h4
theorem rx_inv {V : wV} {a b : Int} (hn : n ≤ 10) (hw : ∀ x, 0 ≤ x → x < n → E a x = true → 0 ≤ w x ∧ w x ≤ 999) (hI : wInv n E w last V) (ha1 : 0 ≤ a) (ha2 : a < n) (hb1 : 0 ≤ b) (hb2 : b < n) : wInv n E w last (rx E w a b V) := by
  unfold rx
  split
  case isFalse => exact hI
  case isTrue h =>
    obtain ⟨e1, e2, e3⟩ := h
    have hwb := hw b hb1 hb2 e1
    have hfb : V b ≠ wFar := fun q => e2 (by rw [q]; rfl)
    have hvb := wInv_fin hI hn hb1 hb2 hfb
    have hal : a ≠ last := by
      intro q
      rw [q, hI.2.1] at e3
      unfold ky at e3
      simp only [] at e3
      omega
    have hab : b ≠ a := by
      intro q
      rw [q] at e3
      have := hwb.1
      rw [q] at this
      omega
    -- the new numbers
    have hrk : ∀ x, 0 ≤ x → x < n → x ≠ a → rk n V x ≤ rk n (fun x => if x = a then ((V b).1 + w b, (V b).2 + 1) else V x) x := by
      intro x h1 h2 hx
      refine cN_mono _ (fun y y1 y2 hy => ?_)
      simp only [decide_eq_true_eq] at hy ⊢
      rw [if_neg hx]
      by_cases ey : y = a
      · rw [if_pos ey]
        rw [ey] at hy
        unfold ky at e3 hy ⊢
        simp only [] at e3 hy ⊢
        omega
      · rw [if_neg ey]; exact hy
    have hra : rk n V b + 1 ≤ rk n (fun x => if x = a then ((V b).1 + w b, (V b).2 + 1) else V x) a := by
      refine cN_lt (y := b) _ (fun y y1 y2 hy => ?_) hb1 (by omega) (by simp) ?_
      · simp only [decide_eq_true_eq] at hy ⊢
        rw [if_pos trivial]
        by_cases ey : y = a
        · rw [ey] at hy
          unfold ky at e3 hy
          omega
        · rw [if_neg ey]
          unfold ky at hy ⊢
          simp only [] at hy ⊢
          omega
      · simp only [decide_eq_true_eq]
        rw [if_pos trivial, if_neg hab]
        unfold ky
        simp only []
        omega
    refine ⟨fun x h1 h2 => ?_, ?_, fun x h1 h2 h3 h4 => ?_⟩
    · by_cases ex : x = a
      · right
        subst ex
        simp only [if_true]
        rcases hI.1 b hb1 hb2 with q | ⟨q1, q2, q3, q4⟩
        · exact absurd q hfb
        · refine ⟨by omega, by omega, by omega, by omega⟩
      · simp only [if_neg ex]
        rcases hI.1 x h1 h2 with q | ⟨q1, q2, q3, q4⟩
        · exact Or.inl q
        · have := hrk x h1 h2 ex
          exact Or.inr ⟨q1, q2, q3, by omega⟩
    · simp only [if_neg (Ne.symm hal)]
      exact hI.2.1
    · by_cases ex : x = a
      · subst ex
        simp only [if_true]
        refine ⟨by omega, b, hb1, hb2, e1, ?_, ?_⟩
        · simp only [if_neg hab]; exact hfb
        · simp only [if_neg hab]; unfold ky; simp only []; omega
      · simp only [if_neg ex] at h4 ⊢
        obtain ⟨p1, y, y1, y2, y3, y4, y5⟩ := hI.2.2 x h1 h2 h3 h4
        refine ⟨p1, y, y1, y2, y3, ?_, ?_⟩
        · by_cases ey : y = a
          · simp only [if_pos ey]
            intro q
            have := congrArg Prod.fst q
            simp only [wFar] at this
            omega
          · simp only [if_neg ey]; exact y4
        · by_cases ey : y = a
          · simp only [if_pos ey]
            rw [ey] at y5
            rw [ey]
            unfold ky at e3 y5 ⊢
            simp only [] at e3 y5 ⊢
            omega
          · simp only [if_neg ey]; exact y5
/-- what is left to shorten comes by lots that are many steps away -/
def wPR (n : Int) (E : Int → Int → Bool) (w : Int → Int) (r as bs : Int) (V : wV) : Prop :=
  ∀ a b, 0 ≤ a → a < n → 0 ≤ b → b < n → E a b = true → V b ≠ wFar → ky (V a) ≤ ky (V b) + 16 * w b + 1 ∨ ((a < as ∨ (a = as ∧ b < bs)) ∧ r ≤ (V b).2) ∨ (¬ (a < as ∨ (a = as ∧ b < bs)) ∧ r - 1 ≤ (V b).2)
theorem rx_pr {V : wV} {r as bs : Int} (hn : n ≤ 10) (hw : ∀ a x, 0 ≤ a → a < n → 0 ≤ x → x < n → E a x = true → 0 ≤ w x ∧ w x ≤ 999) (hI : wInv n E w last V) (ha1 : 0 ≤ as) (ha2 : as < n) (hb1 : 0 ≤ bs) (hb2 : bs < n) (h : wPR n E w r as bs V) : wPR n E w r as (bs + 1) (rx E w as bs V) := by
  intro a b a1 a2 b1 b2 e hf
  unfold rx at hf ⊢
  split at hf
  case isTrue hc =>
    obtain ⟨e1, e2, e3⟩ := hc
    rw [if_pos ⟨e1, e2, e3⟩]
    have hfb : V bs ≠ wFar := fun q => e2 (by rw [q]; rfl)
    have hwb := hw as bs ha1 ha2 hb1 hb2 e1
    have hT : r - 1 ≤ (V bs).2 := by
      rcases h as bs ha1 ha2 hb1 hb2 e1 hfb with q | ⟨q1, q2⟩ | ⟨q1, q2⟩
      · omega
      · omega
      · exact q2
    have hne : bs ≠ as := by
      intro q
      rw [q] at e3 hwb
      omega
    by_cases eb : b = as
    · have hT2 : r ≤ (V bs).2 + 1 := by omega
      rw [if_pos eb]
      by_cases q : a < as ∨ (a = as ∧ b < bs + 1)
      · exact Or.inr (Or.inl ⟨q, hT2⟩)
      · exact Or.inr (Or.inr ⟨q, by simp only []; omega⟩)
    · simp only [if_neg eb] at hf ⊢
      by_cases ea : a = as
      · by_cases eb2 : b = bs
        · left
          rw [if_pos ea, eb2]
          unfold ky
          simp only []
          omega
        · rcases h a b a1 a2 b1 b2 e hf with q | ⟨q1, q2⟩ | ⟨q1, q2⟩
          · left
            rw [if_pos ea]
            rw [ea] at q
            unfold ky at e3 q ⊢
            simp only [] at e3 q ⊢
            omega
          · exact Or.inr (Or.inl ⟨by omega, q2⟩)
          · exact Or.inr (Or.inr ⟨by omega, q2⟩)
      · rw [if_neg ea]
        rcases h a b a1 a2 b1 b2 e hf with q | ⟨q1, q2⟩ | ⟨q1, q2⟩
        · exact Or.inl q
        · exact Or.inr (Or.inl ⟨by omega, q2⟩)
        · exact Or.inr (Or.inr ⟨by omega, q2⟩)
  case isFalse hc =>
    rw [if_neg hc]
    by_cases q : a = as ∧ b = bs
    · left
      obtain ⟨q1, q2⟩ := q
      subst q1; subst q2
      by_cases q3 : ky (V b) + 16 * w b + 1 < ky (V a)
      · exact absurd ⟨e, fun z => hf ((wFar_iff hI hn b1 b2).mp z), q3⟩ hc
      · omega
    · rcases h a b a1 a2 b1 b2 e hf with q' | ⟨q1, q2⟩ | ⟨q1, q2⟩
      · exact Or.inl q'
      · exact Or.inr (Or.inl ⟨by omega, q2⟩)
      · exact Or.inr (Or.inr ⟨by omega, q2⟩)
/-- nothing is left to shorten -/
def wStable (n : Int) (E : Int → Int → Bool) (w : Int → Int) (V : wV) : Prop := ∀ a b, 0 ≤ a → a < n → 0 ≤ b → b < n → E a b = true → V b ≠ wFar → ky (V a) ≤ ky (V b) + 16 * w b + 1
def wOk (n : Int) (E : Int → Int → Bool) (w : Int → Int) : Prop := ∀ a x, 0 ≤ a → a < n → 0 ≤ x → x < n → E a x = true → 0 ≤ w x ∧ w x ≤ 999
theorem rxRow_ok {V : wV} {r a : Int} (hn : n ≤ 10) (hw : wOk n E w) (ha1 : 0 ≤ a) (ha2 : a < n) (hI : wInv n E w last V) (h : wPR n E w r a 0 V) : wInv n E w last (rxRow n E w a V) ∧ wPR n E w r (a + 1) 0 (rxRow n E w a V) := by
  have key := upTo_inv (f := fun b V => rx E w a b V) (fun b V => wInv n E w last V ∧ wPR n E w r a b V) (k := 0) (m := n) (s := V) (by omega) ⟨hI, h⟩ (fun i V' i1 i2 q => ⟨rx_inv hn (fun x x1 x2 => hw a x ha1 ha2 x1 x2) q.1 ha1 ha2 i1 i2, rx_pr hn hw q.1 ha1 ha2 i1 i2 q.2⟩)
  refine ⟨key.1, fun x y x1 x2 y1 y2 e hf => ?_⟩
  rcases key.2 x y x1 x2 y1 y2 e hf with q | ⟨q1, q2⟩ | ⟨q1, q2⟩
  · exact Or.inl q
  · exact Or.inr (Or.inl ⟨by omega, q2⟩)
  · exact Or.inr (Or.inr ⟨by omega, q2⟩)
theorem rxRnd_ok {V : wV} {r : Int} (hn0 : 0 ≤ n) (hn : n ≤ 10) (hw : wOk n E w) (hI : wInv n E w last V) (h : wPR n E w r 0 0 V) : wInv n E w last (rxRnd n E w V) ∧ wPR n E w (r + 1) 0 0 (rxRnd n E w V) := by
  have key := upTo_inv (f := fun a V => rxRow n E w a V) (fun a V => wInv n E w last V ∧ wPR n E w r a 0 V) (k := 0) (m := n) (s := V) hn0 ⟨hI, h⟩ (fun i V' i1 i2 q => rxRow_ok hn hw i1 i2 q.1 q.2)
  refine ⟨key.1, fun x y x1 x2 y1 y2 e hf => ?_⟩
  rcases key.2 x y x1 x2 y1 y2 e hf with q | ⟨q1, q2⟩ | ⟨q1, q2⟩
  · exact Or.inl q
  · have q3 : r ≤ (rxRnd n E w V y).2 := q2
    exact Or.inr (Or.inr ⟨by omega, by omega⟩)
  · exact absurd (Or.inl x2) q1
theorem rxs_ok (hn : n ≤ 10) (hw : wOk n E w) (hl1 : 0 ≤ last) (hl2 : last < n) : ∀ k : Nat, wInv n E w last (rxs n E w k (wV0 last)) ∧ wPR n E w (k + 1 : Int) 0 0 (rxs n E w k (wV0 last))
  | 0 => by
    refine ⟨wV0_inv hl1 hl2, fun a b a1 a2 b1 b2 e hf => Or.inr (Or.inr ⟨by omega, ?_⟩)⟩
    have e2 : b = last := by
      by_cases q : b = last
      · exact q
      · exact absurd (by simp [rxs, upI, wV0, q]) hf
    subst e2
    simp [rxs, upI, wV0]
  | k + 1 => by
    obtain ⟨h1, h2⟩ := rxs_ok hn hw hl1 hl2 k
    have e : rxs n E w (k + 1) (wV0 last) = rxRnd n E w (rxs n E w k (wV0 last)) := by
      unfold rxs
      rw [upI_succ]
    rw [e]
    have := rxRnd_ok (by omega) hn hw h1 h2
    exact this
theorem rxs_stable (hn : n ≤ 10) (hw : wOk n E w) (hl1 : 0 ≤ last) (hl2 : last < n) {k : Nat} (hk : n ≤ k) : wStable n E w (rxs n E w k (wV0 last)) := by
  obtain ⟨hI, h⟩ := rxs_ok hn hw hl1 hl2 k
  intro a b a1 a2 b1 b2 e hf
  have := wInv_fin hI hn b1 b2 hf
  rcases h a b a1 a2 b1 b2 e hf with q | ⟨q1, q2⟩ | ⟨q1, q2⟩
  · exact q
  · omega
  · omega
theorem rx_stable {V : wV} (hs : wStable n E w V) {a b : Int} (a1 : 0 ≤ a) (a2 : a < n) (b1 : 0 ≤ b) (b2 : b < n) : rx E w a b V = V := by
  unfold rx
  split
  case isFalse => rfl
  case isTrue h =>
    have hf : V b ≠ wFar := fun q => h.2.1 (by rw [q]; rfl)
    have := hs a b a1 a2 b1 b2 h.1 hf
    omega
theorem rxRnd_stable {V : wV} (hn : 0 ≤ n) (hs : wStable n E w V) : rxRnd n E w V = V := by
  refine upTo_inv (fun _ V' => V' = V) hn rfl (fun i V' i1 i2 q => ?_)
  subst q
  exact upTo_inv (fun _ V'' => V'' = V') hn rfl (fun j V'' j1 j2 q => by subst q; exact rx_stable hs i1 i2 j1 j2)
theorem rxs_succ (k : Nat) (V : wV) : rxs n E w (k + 1) V = rxRnd n E w (rxs n E w k V) := by
  unfold rxs
  rw [upI_succ]
theorem rxs_more (hn0 : 0 ≤ n) {V : wV} {k : Nat} (h : rxRnd n E w (rxs n E w k V) = rxs n E w k V) : ∀ j : Nat, rxs n E w (k + j) V = rxs n E w k V
  | 0 => rfl
  | j + 1 => by
    rw [show k + (j + 1) = (k + j) + 1 by omega, rxs_succ, rxs_more hn0 h j, h]
/-- where a round changes nothing, all is as it will be -/
theorem rxs_rest (hn : n ≤ 10) (hw : wOk n E w) (hl1 : 0 ≤ last) (hl2 : last < n) {k : Nat} (h : rxRnd n E w (rxs n E w k (wV0 last)) = rxs n E w k (wV0 last) ∨ n ≤ k) : rxs n E w k (wV0 last) = dis n E w last := by
  unfold dis
  rcases Nat.le_total k n.toNat with q | q
  · obtain ⟨j, hj⟩ := Nat.exists_eq_add_of_le q
    rcases h with h | h
    · rw [hj, rxs_more (by omega) h j]
    · have : j = 0 := by omega
      rw [hj, this]; rfl
  · obtain ⟨j, hj⟩ := Nat.exists_eq_add_of_le q
    rw [hj, rxs_more (by omega) (rxRnd_stable (by omega) (rxs_stable hn hw hl1 hl2 (by omega))) j]
theorem dis_inv (hn : n ≤ 10) (hw : wOk n E w) (hl1 : 0 ≤ last) (hl2 : last < n) : wInv n E w last (dis n E w last) := (rxs_ok hn hw hl1 hl2 _).1
theorem dis_stable (hn : n ≤ 10) (hw : wOk n E w) (hl1 : 0 ≤ last) (hl2 : last < n) : wStable n E w (dis n E w last) := rxs_stable hn hw hl1 hl2 (by omega)
/-- from a lot within reach there is a next one -/
theorem dis_next (hn : n ≤ 10) (hw : wOk n E w) (hl1 : 0 ≤ last) (hl2 : last < n) {x : Int} (x1 : 0 ≤ x) (x2 : x < n) (hx : x ≠ last) (hf : dis n E w last x ≠ wFar) :
    ∃ y, 0 ≤ y ∧ y < n ∧ E x y = true ∧ dis n E w last y ≠ wFar ∧ (dis n E w last x).1 = (dis n E w last y).1 + w y ∧ (dis n E w last x).2 = (dis n E w last y).2 + 1 := by
  have hI := dis_inv hn hw hl1 hl2
  obtain ⟨p1, y, y1, y2, y3, y4, y5⟩ := hI.2.2 x x1 x2 hx hf
  have hs := dis_stable hn hw hl1 hl2 x y x1 x2 y1 y2 y3 y4
  have vx := wInv_fin hI hn x1 x2 hf
  have vy := wInv_fin hI hn y1 y2 y4
  refine ⟨y, y1, y2, y3, y4, ?_⟩
  unfold ky at hs y5
  omega
/-- a lot that is not within reach leads to none that is -/
theorem dis_far (hn : n ≤ 10) (hw : wOk n E w) (hl1 : 0 ≤ last) (hl2 : last < n) {x y : Int} (x1 : 0 ≤ x) (x2 : x < n) (y1 : 0 ≤ y) (y2 : y < n) (e : E x y = true) (hf : dis n E w last x = wFar) : dis n E w last y = wFar := by
  by_cases q : dis n E w last y = wFar
  · exact q
  · exfalso
    have hs := dis_stable hn hw hl1 hl2 x y x1 x2 y1 y2 e q
    have vy := wInv_fin (dis_inv hn hw hl1 hl2) hn y1 y2 q
    have := hw x y x1 x2 y1 y2 e
    rw [hf] at hs
    unfold ky wFar at hs
    simp only [] at hs
    omega
theorem dis_zero (hn : n ≤ 10) (hw : wOk n E w) (hl1 : 0 ≤ last) (hl2 : last < n) {x : Int} (x1 : 0 ≤ x) (x2 : x < n) (hf : dis n E w last x ≠ wFar) : (dis n E w last x).2 = 0 ↔ x = last := by
  have hI := dis_inv hn hw hl1 hl2
  constructor
  · intro h
    by_cases q : x = last
    · exact q
    · have := (hI.2.2 x x1 x2 q hf).1
      omega
  · intro h; rw [h, hI.2.1]
end WZ
