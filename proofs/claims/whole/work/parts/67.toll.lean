/-! ===== mm: the pile's walk on both sides ===== -/
theorem nDiv_ok {a b : Int} (ha : -1000000 ≤ a ∧ a ≤ 1000000) (hb : -1000000 ≤ b ∧ b ≤ 1000000) : nDiv a b = a.tdiv b := by
  have h := tdiv_le (b := b) ha
  rw [nDiv_def, Int64.toInt_div_of_ne_left _ _ (fun q => by
    have := congrArg Int64.toInt q
    rw [Int64.toInt_ofInt_of_le (by omega) (by omega)] at this
    rw [this] at ha
    exact absurd ha.1 (by decide)), Int64.toInt_ofInt_of_le (by omega) (by omega), Int64.toInt_ofInt_of_le (by omega) (by omega)]
theorem nRem_ok {a b : Int} (ha : -1000000 ≤ a ∧ a ≤ 1000000) (hb : -1000000 ≤ b ∧ b ≤ 1000000) : nRem a b = a - a.tdiv b * b := by
  have h := tdiv_le (b := b) ha
  have e := nDiv_ok ha hb
  rw [nDiv_def] at e
  have h2 : -1000000 ≤ a.tdiv b * b ∧ a.tdiv b * b ≤ 1000000 := by
    have h1 : (a.tdiv b).natAbs = a.natAbs / b.natAbs := Int.natAbs_tdiv a b
    have h3 : a.natAbs / b.natAbs * b.natAbs ≤ a.natAbs := Nat.div_mul_le_self _ _
    have h4 := Int.natAbs_mul (a.tdiv b) b
    rw [h1] at h4
    omega
  rw [nRem_def]
  have e1 : Int64.ofInt a / Int64.ofInt b = Int64.ofInt (a.tdiv b) := by
    apply Int64.toInt.inj
    rw [e, Int64.toInt_ofInt_of_le (by omega) (by omega)]
  rw [e1, ← Int64.ofInt_mul, ← Int64.ofInt_sub]
  exact Int64.toInt_ofInt_of_le (by omega) (by omega)
theorem x64_neg {a b : Int} (ha : -1000000 ≤ a ∧ a ≤ 1000000) (hb : -1000000 ≤ b ∧ b ≤ 1000000) : (Int64.ofInt a ^^^ Int64.ofInt b) < 0 ↔ ((a < 0 ∧ 0 ≤ b) ∨ (0 ≤ a ∧ b < 0)) := by
  have key : ∀ x : Int, -1000000 ≤ x ∧ x ≤ 1000000 → ((Int64.ofInt x).toBitVec.msb = true ↔ x < 0) := by
    intro x hx
    rw [BitVec.msb_eq_toInt]
    show decide ((Int64.ofInt x).toInt < 0) = true ↔ x < 0
    rw [Int64.toInt_ofInt_of_le (by omega) (by omega)]
    simp
  have h1 : (Int64.ofInt a ^^^ Int64.ofInt b) < 0 ↔ (Int64.ofInt a ^^^ Int64.ofInt b).toBitVec.msb = true := by
    rw [BitVec.msb_eq_toInt, Int64.lt_iff_toInt_lt]
    show (Int64.ofInt a ^^^ Int64.ofInt b).toInt < 0 ↔ decide ((Int64.ofInt a ^^^ Int64.ofInt b).toInt < 0) = true
    simp
  rw [h1, Int64.toBitVec_xor, BitVec.msb_xor]
  have ka := key a ha
  have kb := key b hb
  cases e1 : (Int64.ofInt a).toBitVec.msb <;> cases e2 : (Int64.ofInt b).toBitVec.msb <;> rw [e1] at ka <;> rw [e2] at kb <;> simp at ka kb ⊢ <;> omega
theorem nFdiv_ok {a b : Int} (ha : -1000000 ≤ a ∧ a ≤ 1000000) (hb : -1000000 ≤ b ∧ b ≤ 1000000) (h0 : b ≠ 0) : nFdiv a b = flr a b := by
  have hd := nDiv_ok ha hb
  rw [nDiv_def] at hd
  have h := tdiv_le (b := b) ha
  have hr := nRem_ok ha hb
  rw [nRem_def] at hr
  have e1 : Int64.ofInt a / Int64.ofInt b = Int64.ofInt (a.tdiv b) := by
    apply Int64.toInt.inj
    rw [hd, Int64.toInt_ofInt_of_le (by omega) (by omega)]
  have h2 : -1000000 ≤ a.tdiv b * b ∧ a.tdiv b * b ≤ 1000000 := by
    have h1 : (a.tdiv b).natAbs = a.natAbs / b.natAbs := Int.natAbs_tdiv a b
    have h3 : a.natAbs / b.natAbs * b.natAbs ≤ a.natAbs := Nat.div_mul_le_self _ _
    have h4 := Int.natAbs_mul (a.tdiv b) b
    rw [h1] at h4
    omega
  have e3 : Int64.ofInt (a.tdiv b) * Int64.ofInt b = Int64.ofInt a ↔ a - a.tdiv b * b = 0 := by
    rw [← Int64.ofInt_mul]
    constructor
    · intro q
      have := congrArg Int64.toInt q
      rw [Int64.toInt_ofInt_of_le (by omega) (by omega), Int64.toInt_ofInt_of_le (by omega) (by omega)] at this
      omega
    · intro q
      rw [show a.tdiv b * b = a by omega]
  rw [nFdiv_def, e1]
  have hx := x64_neg ha hb
  unfold flr
  rw [if_neg h0]
  by_cases c1 : a - a.tdiv b * b = 0
  · rw [if_pos c1]
    have : (if (Int64.ofInt a ^^^ Int64.ofInt b) < 0 then if Int64.ofInt (a.tdiv b) * Int64.ofInt b = Int64.ofInt a then Int64.ofInt (a.tdiv b) else Int64.ofInt (a.tdiv b) - 1 else Int64.ofInt (a.tdiv b)) = Int64.ofInt (a.tdiv b) := by
      split
      · rw [if_pos (e3.mpr c1)]
      · rfl
    rw [this]
    exact Int64.toInt_ofInt_of_le (by omega) (by omega)
  · rw [if_neg c1]
    by_cases c2 : (a < 0 ∧ 0 ≤ b) ∨ (0 ≤ a ∧ b < 0)
    · rw [if_pos c2, if_pos (hx.mpr c2), if_neg (fun q => c1 (e3.mp q)), show (1 : Int64) = Int64.ofInt 1 from rfl, ← Int64.ofInt_sub]
      exact Int64.toInt_ofInt_of_le (by omega) (by omega)
    · rw [if_neg c2, if_neg (fun q => c2 (hx.mp q))]
      exact Int64.toInt_ofInt_of_le (by omega) (by omega)
theorem mL2i_ok {a : Int} (h1 : -2147483648 ≤ a) (h2 : a < 2147483648) : mL2i a = a := by
  rw [mL2i_def]
  have e : (Int64.ofInt a).toInt32 = Int32.ofInt a := by
    apply Int32.toInt.inj
    rw [Int64.toInt_toInt32, Int64.toInt_ofInt_of_le (by omega) (by omega), Int32.toInt_ofInt]
  rw [e]
  exact Int32.toInt_ofInt_of_le (by omega) (by omega)
theorem nOr_01 {a b : Int} (ha : a = 0 ∨ a = 1) (hb : b = 0 ∨ b = 1) : nOr a b = (if 0 < a + b then 1 else 0) := by
  rw [nOr_def]
  rcases ha with rfl | rfl <;> rcases hb with rfl | rfl <;> decide
theorem nAnd_01 {a b : Int} (ha : a = 0 ∨ a = 1) (hb : b = 0 ∨ b = 1) : nAnd a b = a * b := by
  rw [nAnd_def]
  rcases ha with rfl | rfl <;> rcases hb with rfl | rfl <;> decide
theorem mul_le12 {a b : Int} (ha : -1000000 ≤ a ∧ a ≤ 1000000) (hb : -1000000 ≤ b ∧ b ≤ 1000000) : -1000000000000 ≤ a * b ∧ a * b ≤ 1000000000000 := by
  have h := Int.natAbs_mul a b
  have h1 : a.natAbs ≤ 1000000 := by omega
  have h2 : b.natAbs ≤ 1000000 := by omega
  have h3 : a.natAbs * b.natAbs ≤ 1000000 * 1000000 := Nat.mul_le_mul h1 h2
  omega
theorem mm_clp (v : Int) : mMax (-1000000) (mMin 1000000 v) = clp v := by
  unfold mMax mMin clp
  repeat' split
  all_goals omega
theorem tkS3 {t : Int} (h : tkS t = 3) : t = 10223 ∨ t = 10224 := by
  unfold tkS at h
  repeat' split at h
  all_goals first | omega | assumption
theorem tkS4 {t : Int} (h : tkS t = 4) : t = 10060 ∨ t = 10061 ∨ t = 10062 := by
  unfold tkS at h
  repeat' split at h
  all_goals first | omega | assumption
theorem tkS1 {t : Int} (h : tkS t = 1) : t = 10226 := by
  unfold tkS at h
  repeat' split at h
  all_goals first | omega | assumption
theorem tkS2 {t : Int} (h : tkS t = 2) : t = 10225 := by
  unfold tkS at h
  repeat' split at h
  all_goals first | omega | assumption
theorem tkS0 {t : Int} (h : tkS t = 0) : (0 ≤ t ∧ t < 10000) ∨ t = 10203 ∨ t = 10204 ∨ t = 10211 ∨ t = 10214 ∨ t = 10222 := by
  unfold tkS at h
  repeat' split at h
  all_goals first | omega | (left; assumption) | (right; assumption)
theorem clp_id {v : Int} (h : -1000000 ≤ v ∧ v ≤ 1000000) : clp v = v := by unfold clp; (repeat' split) <;> omega
/-- the two numbers that a sign joins are of its sort -/
def jnOk (t a b : Int) : Prop := (tkS t = 3 ∧ (a = 0 ∨ a = 1) ∧ (b = 0 ∨ b = 1)) ∨ ((tkS t = 4 ∨ tkS t = 5) ∧ (-1000000 ≤ a ∧ a ≤ 1000000) ∧ (-1000000 ≤ b ∧ b ≤ 1000000))
theorem jnOk.big {t a b : Int} (h : jnOk t a b) : (-1000000 ≤ a ∧ a ≤ 1000000) ∧ (-1000000 ≤ b ∧ b ≤ 1000000) := by
  rcases h with ⟨_, h1, h2⟩ | ⟨_, h1, h2⟩
  · omega
  · exact ⟨h1, h2⟩
theorem jnOk.sort {t a b : Int} (h : jnOk t a b) : t = 10042 ∨ t = 10043 ∨ t = 10045 ∨ t = 10047 ∨ t = 10060 ∨ t = 10061 ∨ t = 10062 ∨ t = 10223 ∨ t = 10224 ∨ t = 10227 ∨ t = 10228 := by
  rcases h with ⟨h, _⟩ | ⟨h | h, _⟩
  · have := tkS3 h; omega
  · have := tkS4 h; omega
  · have := tkS5 h; omega
theorem jnOk.b01 {t a b : Int} (h : jnOk t a b) (ht : t = 10223 ∨ t = 10224) : (a = 0 ∨ a = 1) ∧ (b = 0 ∨ b = 1) := by
  rcases h with ⟨_, h1, h2⟩ | ⟨h | h, _⟩
  · exact ⟨h1, h2⟩
  · have := tkS4 h; omega
  · have := tkS5 h; omega
theorem jn_clp {t a b : Int} (h : jnOk t a b) : clp (jn t a b) = jn t a b := by
  apply clp_id
  rcases h with ⟨h, h1, h2⟩ | ⟨h | h, h1, h2⟩
  · have := jn_ok3 h h1 h2; omega
  · have := jn_ok4 (a := a) (b := b) h; omega
  · exact jn_ok5 h h1 h2
section TOA
variable {d : Nat} {h : mmH} {Q : Int → mmH → Prop}
theorem pA_isJoint {t : Int} (hy : ∀ x, YN x (t = 10223 ∨ t = 10224 ∨ t = 10227 ∨ t = 10228 ∨ (10000 ≤ t ∧ t < 10200)) → Q x h) : qC tFA (d + 1) k_Laws_isJoint [t] h Q := by
  have h2 : ¬ (t = 10223 ∨ t = 10224 ∨ t = 10227 ∨ t = 10228) → qB tFA d k_Laws_isJoint (h 0 0) (h 0 1) Q 2 [(1, t)] [] h := fun c =>
    TA_Laws_isJoint_2 _ _ _ _ _ _ ⟨fun c1 => hy _ (YN.no (by omega)), fun c1 => ⟨fun c2 => hy _ (YN.no (by omega)), fun c2 => hy _ (YN.yes (by omega))⟩⟩
  exact qC_intro (TA_Laws_isJoint_0 _ _ _ _ _ _ ⟨⟨fun c => hy _ (YN.yes (by omega)), fun c => hy _ (YN.yes (by omega)), fun c => h2 (by omega), fun c => h2 (by omega), fun c => hy _ (YN.yes (by omega)), fun c => hy _ (YN.yes (by omega)), trivial⟩, fun c => h2 (by omega)⟩)
theorem pA_joined {t a b : Int} (hj : jnOk t a b) (hy : ∀ x, clp x = jn t a b → Q x h) : qC tFA (d + 1) k_Laws_joined [t, a, b] h Q := by
  obtain ⟨ha, hb⟩ := hj.big
  have hm := mul_le12 ha hb
  have hjc := jn_clp hj
  have hs := hj.sort
  refine qC_intro (TA_Laws_joined_0 _ _ _ _ _ _ _ _ ⟨fun c => hy _ ?_, fun c1 => ⟨fun c => hy _ ?_, fun c2 => ⟨fun c => hy _ ?_, fun c3 => ⟨fun c => ⟨fun c' => mmD_of ?_ (hy _ ?_), fun c' => hy _ ?_⟩, fun c4 => ⟨fun c => ⟨fun c' => hy _ ?_, fun c' => hy _ ?_⟩, fun c5 => ⟨fun c => ⟨fun c' => hy _ ?_, fun c' => hy _ ?_⟩, fun c6 => ⟨fun c => ⟨fun c' => hy _ ?_, fun c' => hy _ ?_⟩, fun c7 => ⟨fun c => hy _ ?_, fun c8 => ⟨fun c => hy _ ?_, fun c9 => ⟨fun c => hy _ ?_, fun c10 => ⟨fun c => hy _ ?_, fun c11 => absurd hs (by omega)⟩⟩⟩⟩⟩⟩⟩⟩⟩⟩⟩)
  · subst c
    rw [nMul_ok (by omega) (by omega), jn_mul]
  · subst c
    rw [nAdd_ok (by omega) (by omega), jn_add]
  · subst c
    rw [nSub_ok (by omega) (by omega), jn_sub]
  · exact lc_ne0.mp c'
  · subst c
    rw [nFdiv_ok ha hb (lc_ne0.mp c')]
    rw [jn_div] at hjc ⊢
    exact hjc
  · subst c
    have : b = 0 := lc_eq0.mp (Decidable.of_not_not c')
    subst this
    rw [jn_div]
    simp [flr, clp]
  · subst c
    rw [lc_ge0] at c'
    rw [jn_lt, if_neg (by omega)]
    simp [clp]
  · subst c
    rw [lc_ge0] at c'
    rw [jn_lt, if_pos (by omega)]
    simp [clp]
  · subst c
    rw [lc_ne0] at c'
    rw [jn_eq, if_neg c']
    simp [clp]
  · subst c
    have : a = b := lc_eq0.mp (Decidable.of_not_not c')
    rw [jn_eq, if_pos this]
    simp [clp]
  · subst c
    rw [lc_le0] at c'
    rw [jn_gt, if_neg (by omega)]
    simp [clp]
  · subst c
    rw [lc_le0] at c'
    rw [jn_gt, if_pos (by omega)]
    simp [clp]
  · subst c
    have := hj.b01 (by omega)
    rw [nOr_01 this.1 this.2]
    rw [jn_or] at hjc ⊢
    exact hjc
  · subst c
    have := hj.b01 (by omega)
    rw [nAnd_01 this.1 this.2]
    rw [jn_and] at hjc ⊢
    exact hjc
  · subst c
    rw [show mMin a b = jn 10227 a b by rw [jn_min]; unfold mMin; split <;> split <;> omega]
    exact hjc
  · subst c
    rw [show mMax a b = jn 10228 a b by rw [jn_max]; unfold mMax; split <;> split <;> omega]
    exact hjc
end TOA
section TOB
variable {d : Nat} {h : mmH} {Q : Int → mmH → Prop}
theorem pB_isJoint {t : Int} (hy : ∀ x, YN x (t = 10223 ∨ t = 10224 ∨ t = 10227 ∨ t = 10228 ∨ (10000 ≤ t ∧ t < 10200)) → Q x h) : qC tFB (d + 1) k_Laws_isJoint [t] h Q := by
  have h2 : ¬ (t = 10223 ∨ t = 10224 ∨ t = 10227 ∨ t = 10228) → qB tFB d k_Laws_isJoint (h 0 0) (h 0 1) Q 2 [(1, t)] [] h := fun c =>
    TB_Laws_isJoint_2 _ _ _ _ _ _ ⟨fun c1 => hy _ (YN.no (by omega)), fun c1 => ⟨fun c2 => hy _ (YN.no (by omega)), fun c2 => hy _ (YN.yes (by omega))⟩⟩
  exact qC_intro (TB_Laws_isJoint_0 _ _ _ _ _ _ ⟨⟨fun c => hy _ (YN.yes (by omega)), fun c => hy _ (YN.yes (by omega)), fun c => h2 (by omega), fun c => h2 (by omega), fun c => hy _ (YN.yes (by omega)), fun c => hy _ (YN.yes (by omega)), trivial⟩, fun c => h2 (by omega)⟩)
theorem pB_joined {t a b : Int} (hj : jnOk t a b) (hy : ∀ x, clp x = jn t a b → Q x h) : qC tFB (d + 1) k_Laws_joined [t, a, b] h Q := by
  obtain ⟨ha, hb⟩ := hj.big
  have hm := mul_le12 ha hb
  have hjc := jn_clp hj
  have hs := hj.sort
  refine qC_intro (TB_Laws_joined_0 _ _ _ _ _ _ _ _ ⟨fun c => hy _ ?_, fun c1 => ⟨fun c => hy _ ?_, fun c2 => ⟨fun c => hy _ ?_, fun c3 => ⟨fun c => ⟨fun c' => mmD_of ?_ (hy _ ?_), fun c' => hy _ ?_⟩, fun c4 => ⟨fun c => ⟨fun c' => hy _ ?_, fun c' => hy _ ?_⟩, fun c5 => ⟨fun c => ⟨fun c' => hy _ ?_, fun c' => hy _ ?_⟩, fun c6 => ⟨fun c => ⟨fun c' => hy _ ?_, fun c' => hy _ ?_⟩, fun c7 => ⟨fun c => hy _ ?_, fun c8 => ⟨fun c => hy _ ?_, fun c9 => ⟨fun c => hy _ ?_, fun c10 => ⟨fun c => hy _ ?_, fun c11 => absurd hs (by omega)⟩⟩⟩⟩⟩⟩⟩⟩⟩⟩⟩)
  · subst c
    rw [nMul_ok (by omega) (by omega), jn_mul]
  · subst c
    rw [nAdd_ok (by omega) (by omega), jn_add]
  · subst c
    rw [nSub_ok (by omega) (by omega), jn_sub]
  · exact lc_ne0.mp c'
  · subst c
    rw [nFdiv_ok ha hb (lc_ne0.mp c')]
    rw [jn_div] at hjc ⊢
    exact hjc
  · subst c
    have : b = 0 := lc_eq0.mp (Decidable.of_not_not c')
    subst this
    rw [jn_div]
    simp [flr, clp]
  · subst c
    rw [lc_ge0] at c'
    rw [jn_lt, if_neg (by omega)]
    simp [clp]
  · subst c
    rw [lc_ge0] at c'
    rw [jn_lt, if_pos (by omega)]
    simp [clp]
  · subst c
    rw [lc_ne0] at c'
    rw [jn_eq, if_neg c']
    simp [clp]
  · subst c
    have : a = b := lc_eq0.mp (Decidable.of_not_not c')
    rw [jn_eq, if_pos this]
    simp [clp]
  · subst c
    rw [lc_le0] at c'
    rw [jn_gt, if_neg (by omega)]
    simp [clp]
  · subst c
    rw [lc_le0] at c'
    rw [jn_gt, if_pos (by omega)]
    simp [clp]
  · subst c
    have := hj.b01 (by omega)
    rw [nOr_01 this.1 this.2]
    rw [jn_or] at hjc ⊢
    exact hjc
  · subst c
    have := hj.b01 (by omega)
    rw [nAnd_01 this.1 this.2]
    rw [jn_and] at hjc ⊢
    exact hjc
  · subst c
    rw [show mMin a b = jn 10227 a b by rw [jn_min]; unfold mMin; split <;> split <;> omega]
    exact hjc
  · subst c
    rw [show mMax a b = jn 10228 a b by rw [jn_max]; unfold mMax; split <;> split <;> omega]
    exact hjc
end TOB
