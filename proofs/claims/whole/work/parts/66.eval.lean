/-! ===== mm: what tolls and bars come to: tokens worked out on a pile ===== -/
/-- the reference's number for a token -/
def codeOf (t : Int) : Int :=
  if t < 10000 then t + 1000 else if t = 10043 then 1 else if t = 10045 then 2 else if t = 10042 then 3 else if t = 10047 then 4 else if t = 10227 then 5 else if t = 10228 then 6
  else if t = 10211 then 7 else if t = 10214 then 8 else if t = 10203 then 9 else if t = 10204 then 10 else if t = 10222 then 11 else if t = 10060 then 12 else if t = 10062 then 13 else if t = 10061 then 14
  else if t = 10224 then 15 else if t = 10223 then 16 else if t = 10225 then 17 else 18
/-- a token's sort: 0 a number or a fact's word, 1 all, 2 not, 3 or, and, 4 a compare, 5 a sum's sign, 6 none -/
def tkS (t : Int) : Nat :=
  if 0 ≤ t ∧ t < 10000 then 0 else if t = 10203 ∨ t = 10204 ∨ t = 10211 ∨ t = 10214 ∨ t = 10222 then 0 else if t = 10226 then 1 else if t = 10225 then 2 else if t = 10223 ∨ t = 10224 then 3
  else if t = 10060 ∨ t = 10061 ∨ t = 10062 then 4 else if t = 10042 ∨ t = 10043 ∨ t = 10045 ∨ t = 10047 ∨ t = 10227 ∨ t = 10228 then 5 else 6
def chk1 (t : Int) (ks : List Bool) : Option (List Bool) := match tkS t, ks with
  | 0, ks => if ks.length < 64 then some (false :: ks) else none
  | 1, ks => if ks.length < 64 then some (true :: ks) else none
  | 2, true :: r => some (true :: r)
  | 3, true :: true :: r => some (true :: r)
  | 4, false :: false :: r => some (true :: r)
  | 5, false :: false :: r => some (false :: r)
  | _, _ => none
def chkR (tk : Int → Int) : Nat → Int → List Bool → Option (List Bool)
  | 0, _, ks => some ks
  | n + 1, k, ks => (chk1 (tk k) ks).bind (chkR tk n (k + 1))
def clp (v : Int) : Int := if v < -1000000 then -1000000 else if 1000000 < v then 1000000 else v
def flr (a b : Int) : Int := if b = 0 then 0 else if a - a.tdiv b * b = 0 then a.tdiv b else if (a < 0 ∧ 0 ≤ b) ∨ (0 ≤ a ∧ b < 0) then a.tdiv b - 1 else a.tdiv b
def sgl (e : Int → Int) (t : Int) : Int := if t = 10203 then e 2 else if t = 10204 then e 3 else if t = 10211 then e 0 else if t = 10214 then e 1 else if t = 10222 then e 4 else if t = 10226 then 1 else t
def jn (t a b : Int) : Int :=
  if t = 10042 then clp (a * b) else if t = 10043 then clp (a + b) else if t = 10045 then clp (a - b) else if t = 10047 then flr a b
  else if t = 10060 then (if a < b then 1 else 0) else if t = 10061 then (if a = b then 1 else 0) else if t = 10062 then (if b < a then 1 else 0)
  else if t = 10223 then (if 0 < a + b then 1 else 0) else if t = 10224 then a * b else if t = 10227 then (if a < b then a else b) else (if b < a then a else b)
theorem jn_mul {a b : Int} : jn 10042 a b = clp (a * b) := by simp [jn]
theorem jn_add {a b : Int} : jn 10043 a b = clp (a + b) := by simp [jn]
theorem jn_sub {a b : Int} : jn 10045 a b = clp (a - b) := by simp [jn]
theorem jn_div {a b : Int} : jn 10047 a b = flr a b := by simp [jn]
theorem jn_lt {a b : Int} : jn 10060 a b = if a < b then 1 else 0 := by simp [jn]
theorem jn_eq {a b : Int} : jn 10061 a b = if a = b then 1 else 0 := by simp [jn]
theorem jn_gt {a b : Int} : jn 10062 a b = if b < a then 1 else 0 := by simp [jn]
theorem jn_or {a b : Int} : jn 10223 a b = if 0 < a + b then 1 else 0 := by simp [jn]
theorem jn_and {a b : Int} : jn 10224 a b = a * b := by simp [jn]
theorem jn_min {a b : Int} : jn 10227 a b = if a < b then a else b := by simp [jn]
theorem jn_max {a b : Int} : jn 10228 a b = if b < a then a else b := by simp [jn]
def ev1 (e : Int → Int) (t : Int) (st : List Int) : List Int := match tkS t, st with
  | 0, st => sgl e t :: st
  | 1, st => sgl e t :: st
  | 2, a :: r => (1 - a) :: r
  | 3, b :: a :: r => jn t a b :: r
  | 4, b :: a :: r => jn t a b :: r
  | 5, b :: a :: r => jn t a b :: r
  | _, st => st
def evR (e tk : Int → Int) : Nat → Int → List Int → List Int
  | 0, _, st => st
  | n + 1, k, st => evR e tk n (k + 1) (ev1 e (tk k) st)
/-- a value's kind: a test's 0 or 1, a sum's within a million -/
def vk (k : Bool) (v : Int) : Prop := match k with
  | true => v = 0 ∨ v = 1
  | false => -1000000 ≤ v ∧ v ≤ 1000000
def sk : List Bool → List Int → Prop
  | [], [] => True
  | k :: ks, v :: vs => vk k v ∧ sk ks vs
  | _, _ => False
theorem sk_len : ∀ {ks : List Bool} {vs : List Int}, sk ks vs → vs.length = ks.length
  | [], [], _ => rfl
  | _ :: ks, _ :: vs, h => by simp [sk_len h.2]
  | [], _ :: _, h => h.elim
  | _ :: _, [], h => h.elim
theorem clp_ok (v : Int) : -1000000 ≤ clp v ∧ clp v ≤ 1000000 := by unfold clp; (repeat' split) <;> omega
theorem tdiv_le {a b : Int} (h : -1000000 ≤ a ∧ a ≤ 1000000) : -1000000 ≤ a.tdiv b ∧ a.tdiv b ≤ 1000000 := by
  have h1 : (a.tdiv b).natAbs = a.natAbs / b.natAbs := Int.natAbs_tdiv a b
  have h2 : a.natAbs / b.natAbs ≤ a.natAbs := Nat.div_le_self _ _
  omega
theorem flr_ok {a b : Int} (h : -1000000 ≤ a ∧ a ≤ 1000000) : -1000000 ≤ flr a b ∧ flr a b ≤ 1000000 := by
  have h1 : (a.tdiv b).natAbs = a.natAbs / b.natAbs := Int.natAbs_tdiv a b
  have h2 := tdiv_le (b := b) h
  unfold flr
  split
  · omega
  · split
    · exact h2
    · next hb hr =>
      split
      · by_cases hb1 : b.natAbs = 1
        · exfalso
          apply hr
          rcases Int.natAbs_eq b with e | e <;> rw [hb1] at e <;> rw [e]
          · simp
          · simp
        · have h3 : 2 ≤ b.natAbs := by omega
          have h4 : a.natAbs / b.natAbs ≤ a.natAbs / 2 := Nat.div_le_div_left h3 (by omega)
          omega
      · exact h2
/-- what the facts' words stand for -/
def envOk (e : Int → Int) : Prop := ∀ i, 0 ≤ i → i < 5 → -1000000 ≤ e i ∧ e i ≤ 1000000
theorem sgl_ok {e : Int → Int} {t : Int} (he : envOk e) (h : tkS t = 0) : -1000000 ≤ sgl e t ∧ sgl e t ≤ 1000000 := by
  have e0 := he 0 (by omega) (by omega)
  have e1 := he 1 (by omega) (by omega)
  have e2 := he 2 (by omega) (by omega)
  have e3 := he 3 (by omega) (by omega)
  have e4 := he 4 (by omega) (by omega)
  unfold tkS at h
  unfold sgl
  repeat' split
  all_goals first | omega | skip
  all_goals
    split at h
    · omega
    · split at h
      · omega
      · repeat' split at h
        all_goals omega
theorem jn_ok4 {t a b : Int} (h : tkS t = 4) : jn t a b = 0 ∨ jn t a b = 1 := by
  have ht : t = 10060 ∨ t = 10061 ∨ t = 10062 := by
    unfold tkS at h
    repeat' split at h
    all_goals first | omega | assumption
  rcases ht with rfl | rfl | rfl
  · rw [jn_lt]; split <;> simp
  · rw [jn_eq]; split <;> simp
  · rw [jn_gt]; split <;> simp
theorem jn_ok3 {t a b : Int} (h : tkS t = 3) (ha : a = 0 ∨ a = 1) (hb : b = 0 ∨ b = 1) : jn t a b = 0 ∨ jn t a b = 1 := by
  have ht : t = 10223 ∨ t = 10224 := by
    unfold tkS at h
    repeat' split at h
    all_goals first | omega | assumption
  rcases ht with rfl | rfl
  · rw [jn_or]; split <;> simp
  · rw [jn_and]
    rcases ha with rfl | rfl <;> rcases hb with rfl | rfl <;> simp
theorem tkS5 {t : Int} (h : tkS t = 5) : t = 10042 ∨ t = 10043 ∨ t = 10045 ∨ t = 10047 ∨ t = 10227 ∨ t = 10228 := by
  unfold tkS at h
  repeat' split at h
  all_goals first | omega | assumption
theorem jn_ok5 {t a b : Int} (h : tkS t = 5) (ha : -1000000 ≤ a ∧ a ≤ 1000000) (hb : -1000000 ≤ b ∧ b ≤ 1000000) : -1000000 ≤ jn t a b ∧ jn t a b ≤ 1000000 := by
  rcases tkS5 h with rfl | rfl | rfl | rfl | rfl | rfl
  · rw [jn_mul]; exact clp_ok _
  · rw [jn_add]; exact clp_ok _
  · rw [jn_sub]; exact clp_ok _
  · rw [jn_div]; exact flr_ok ha
  · rw [jn_min]; split <;> omega
  · rw [jn_max]; split <;> omega
theorem ev1_ok {e : Int → Int} {t : Int} {ks ks' : List Bool} {st : List Int} (he : envOk e) (hc : chk1 t ks = some ks') (hs : sk ks st) : sk ks' (ev1 e t st) := by
  unfold chk1 at hc
  unfold ev1
  split at hc
  · next e0 =>
    rw [e0]
    split at hc
    · cases hc; exact ⟨sgl_ok he e0, hs⟩
    · cases hc
  · next e0 =>
    rw [e0]
    split at hc
    · cases hc
      refine ⟨?_, hs⟩
      have : t = 10226 := by
        unfold tkS at e0
        repeat' split at e0
        all_goals first | omega | assumption
      subst this
      right; simp [sgl]
    · cases hc
  · next e0 =>
    rw [e0]
    cases hc
    match st, hs with
    | a :: r, hs =>
      refine ⟨?_, hs.2⟩
      have : a = 0 ∨ a = 1 := hs.1
      show 1 - a = 0 ∨ 1 - a = 1
      omega
  · next e0 =>
    rw [e0]
    cases hc
    match st, hs with
    | b :: a :: r, hs => exact ⟨jn_ok3 e0 hs.2.1 hs.1, hs.2.2⟩
  · next e0 =>
    rw [e0]
    cases hc
    match st, hs with
    | b :: a :: r, hs => exact ⟨jn_ok4 e0, hs.2.2⟩
  · next e0 =>
    rw [e0]
    cases hc
    match st, hs with
    | b :: a :: r, hs => exact ⟨jn_ok5 e0 hs.2.1 hs.1, hs.2.2⟩
  · cases hc
theorem evR_ok {e tk : Int → Int} (he : envOk e) : ∀ (n : Nat) (k : Int) (ks ks' : List Bool) (st : List Int), chkR tk n k ks = some ks' → sk ks st → sk ks' (evR e tk n k st)
  | 0, k, ks, ks', st, hc, hs => by cases hc; exact hs
  | n + 1, k, ks, ks', st, hc, hs => by
    unfold chkR at hc
    cases h1 : chk1 (tk k) ks with
    | none => rw [h1] at hc; cases hc
    | some k1 =>
      rw [h1] at hc
      exact evR_ok he n (k + 1) k1 ks' _ hc (ev1_ok he h1 hs)
/-- the pile in a row of a heap: its top first -/
def pr (h : mmH) (g : Int) : List Int → Prop
  | [] => True
  | v :: r => h g (r.length : Int) = v ∧ pr h g r
theorem pr_put {h : mmH} {g x : Int} {j : Int} : ∀ {r : List Int}, (r.length : Int) ≤ j → pr h g r → pr (mmS h g j x) g r
  | [], _, _ => trivial
  | v :: r, hj, hp => by
    simp only [List.length_cons] at hj
    refine ⟨?_, pr_put (by omega) hp.2⟩
    rw [mmS_slot, if_neg (by omega)]
    exact hp.1
theorem pr_fr {h h' : mmH} {g : Int} (e : ∀ i, h' g i = h g i) : ∀ {r : List Int}, pr h g r → pr h' g r
  | [], _ => trivial
  | v :: r, hp => ⟨by rw [e]; exact hp.1, pr_fr e hp.2⟩
/-- nothing else is written -/
def Fr (S : Int → Int → Prop) (h h' : mmH) : Prop := ∀ k i, ¬ S k i → h' k i = h k i
theorem Fr.rf {S : Int → Int → Prop} {h : mmH} : Fr S h h := fun _ _ _ => rfl
theorem Fr.tr {S : Int → Int → Prop} {h h' h'' : mmH} (a : Fr S h h') (b : Fr S h' h'') : Fr S h h'' := fun k i c => by rw [b k i c, a k i c]
theorem Fr.mono {S S' : Int → Int → Prop} {h h' : mmH} (a : Fr S h h') (hS : ∀ k i, S k i → S' k i) : Fr S' h h' := fun k i c => a k i (fun q => c (hS k i q))
theorem Fr.put {S : Int → Int → Prop} {h h' : mmH} {k i v : Int} (a : Fr S h h') (hS : S k i) : Fr S h (mmS h' k i v) := fun a' b' c => by
  unfold mmS
  by_cases e : a' = k
  · by_cases e2 : b' = i
    · subst e; subst e2; exact absurd hS c
    · rw [if_pos e, if_neg e2]; exact a a' b' c
  · rw [if_neg e]; exact a a' b' c
