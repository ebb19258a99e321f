/-! ===== mm: what the two sides have in common ===== -/
def cNum (u s : Int) (g h : mmH) : Prop :=
  (h 313 (5 * s) = g u 0 ∧ h 313 (5 * s + 1) = g u 1 ∧ h 313 (5 * s + 2) = g u 3 ∧ h 313 (5 * s + 3) = g u 2 ∧ h 313 (5 * s + 4) = g (u + 33) 0) ∧
  ((0 ≤ g u 0 ∧ g u 0 ≤ 5) ∧ (0 ≤ g u 1 ∧ g u 1 ≤ 10) ∧ (0 ≤ g u 3 ∧ g u 3 ≤ 6) ∧ (0 ≤ g u 2 ∧ g u 2 ≤ 20) ∧ (0 ≤ g (u + 33) 0 ∧ g (u + 33) 0 ≤ 8)) ∧
  (1 ≤ g u 4 ∧ g u 4 ≤ 20) ∧ (0 ≤ g u 5 ∧ g u 5 ≤ 100) ∧ h 319 s = g u 5 ∧ (h 318 s = g u 4 ∨ (h 318 s = 0 ∧ g u 4 = 5 ∧ g u 3 = 0))
def cLot (u s : Int) (g h : mmH) : Prop := ∀ l, 0 ≤ l → l < g u 1 →
  (h 315 (50 * s + 5 * l) = g (u + 5 + l) 0 ∧ 0 ≤ g (u + 5 + l) 0 ∧ g (u + 5 + l) 0 < g u 0) ∧ (h 315 (50 * s + 5 * l + 1) = g (u + 5 + l) 1 ∧ 0 ≤ g (u + 5 + l) 1 ∧ g (u + 5 + l) 1 ≤ 20) ∧
  (h 315 (50 * s + 5 * l + 2) = g (u + 5 + l) 2 ∧ 0 ≤ g (u + 5 + l) 2 ∧ g (u + 5 + l) 2 ≤ 30) ∧ (h 315 (50 * s + 5 * l + 3) = g (u + 5 + l) 3 ∧ 0 ≤ g (u + 5 + l) 3 ∧ g (u + 5 + l) 3 ≤ 9) ∧
  (h 315 (50 * s + 5 * l + 4) = g (u + 5 + l) 4 ∧ 0 ≤ g (u + 5 + l) 4 ∧ g (u + 5 + l) 4 ≤ 1)
def cPer (u s : Int) (g h : mmH) : Prop := ∀ p, 0 ≤ p → p < g u 3 → (∀ c, 0 ≤ c → c < 6 → h 317 (36 * s + 6 * p + c) = g (u + 16 + p) c) ∧
  (1 ≤ g (u + 16 + p) 0 ∧ g (u + 16 + p) 0 ≤ 99) ∧ (0 ≤ g (u + 16 + p) 1 ∧ g (u + 16 + p) 1 ≤ 9) ∧ (0 ≤ g (u + 16 + p) 2 ∧ g (u + 16 + p) 2 ≤ 20) ∧ (0 ≤ g (u + 16 + p) 3 ∧ g (u + 16 + p) 3 ≤ 9) ∧
  (0 ≤ g (u + 16 + p) 4 ∧ g (u + 16 + p) 4 < g u 1) ∧ (0 ≤ g (u + 16 + p) 5 ∧ g (u + 16 + p) 5 < g u 1) ∧ g (u + 16 + p) 4 ≠ g (u + 16 + p) 5
def cGap (u s : Int) (g h : mmH) : Prop := ∀ a b, 0 ≤ a → a < g u 1 → 0 ≤ b → b < g u 1 → h 316 (100 * s + 10 * a + b) = g (u + 23 + a) b + 1 ∧ -1 ≤ g (u + 23 + a) b ∧ g (u + 23 + a) b ≤ 9
/-- a name's letters, packed by fives, and to the base 27 -/
def pk5 : List Int → Int
  | [] => 0
  | c :: r => c + 32 * pk5 r
def b27 (ls : List Int) : Int := ls.foldl (fun v c => 27 * v + c) 0
def isNm (ls : List Int) : Prop := 1 ≤ ls.length ∧ ls.length ≤ 6 ∧ ∀ x ∈ ls, 1 ≤ x ∧ x ≤ 26
def nmR (a b : Int) : Prop := ∃ ls, isNm ls ∧ a = pk5 ls ∧ b = b27 ls
def cName (u s : Int) (g h : mmH) : Prop := (∀ k, 0 ≤ k → k < g u 0 → nmR (g (u + 1) k) (h 314 (30 * s + k))) ∧ (∀ k, 0 ≤ k → k < g u 1 → nmR (g (u + 2) k) (h 314 (30 * s + 10 + k))) ∧ (∀ k, 0 ≤ k → k < g u 3 → nmR (g (u + 3) k) (h 314 (30 * s + 20 + k)))
/-- a toll's or a bar's tokens -/
def cLaw (u s : Int) (g h : mmH) : Prop := ∀ k, 0 ≤ k → k < g (u + 33) 0 →
  h 320 (8 * s + k) = g (u + 34) k ∧ (h 321 (8 * s + k) = 0 ∨ h 321 (8 * s + k) = 1) ∧ (h 321 (8 * s + k) = 1 ↔ g (u + 35) k = g (u + 36) k) ∧
  h 324 (8 * s + k) = g (u + 35) k ∧ h 325 (8 * s + k) = g (u + 36) k ∧ h 326 (8 * s + k) = g (u + 37) k ∧
  (0 ≤ g (u + 35) k ∧ g (u + 35) k ≤ g (u + 36) k ∧ g (u + 36) k ≤ g (u + 37) k ∧ g (u + 37) k ≤ 1600) ∧
  chkR (g (u + 38)) (g (u + 37) k - g (u + 36) k).toNat (g (u + 36) k) [] = some [true] ∧
  (g (u + 35) k = g (u + 36) k ∨ chkR (g (u + 38)) (g (u + 36) k - g (u + 35) k).toNat (g (u + 35) k) [] = some [false]) ∧
  (∀ j, g (u + 35) k ≤ j → j < g (u + 37) k → h 322 (1600 * s + j) = codeOf (g (u + 38) j))
/-- a town: told on one side as on the other -/
def Tn (u s : Int) (g h : mmH) : Prop := cNum u s g h ∧ cLot u s g h ∧ cPer u s g h ∧ cGap u s g h ∧ cName u s g h ∧ cLaw u s g h
/-- what acts change: in the cells from c on; in the reference's row m from o on -/
def Nw (c m o u : Int) (g h : mmH) : Prop :=
  (h m o = g c 0 ∧ 0 ≤ g c 0 ∧ g c 0 ≤ 999) ∧ (h m (o + 1) = g c 1 ∧ 0 ≤ g c 1 ∧ g c 1 ≤ 9) ∧ (h m (o + 29) = g c 2 ∧ 0 ≤ g c 2 ∧ g c 2 ≤ 60) ∧
  (∀ l, 0 ≤ l → l < g u 1 → h m (o + (2 + l)) = g (c + 1) l ∧ 0 ≤ g (c + 1) l ∧ g (c + 1) l ≤ 30) ∧
  (∀ p, 0 ≤ p → p < g u 3 → h m (o + (12 + 2 * p)) = g (c + 2) p ∧ h m (o + (12 + 2 * p + 1)) = g (c + 3) p ∧ (0 ≤ g (c + 2) p ∧ g (c + 2) p < g u 1) ∧ (0 ≤ g (c + 3) p ∧ g (c + 3) p < g u 1) ∧ g (c + 2) p ≠ g (c + 3) p) ∧
  (∀ q, 0 ≤ q → q < g u 0 → h m (o + (24 + q)) = g (c + 4) q) ∧
  (∀ k, 0 ≤ k → k < g c 2 → h m (o + (30 + 3 * k)) = g (c + 6) k ∧ h m (o + (30 + 3 * k + 1)) = g (c + 7) k ∧ h m (o + (30 + 3 * k + 2)) = g (c + 8) k)
def Pst (u : Int) (g h : mmH) : Prop := (h 282 67 = g 1 7 ∧ 0 ≤ g 1 7 ∧ g 1 7 ≤ 20) ∧ (h 282 68 = g 1 6 ∧ 0 ≤ g 1 6 ∧ g 1 6 < 20) ∧
  ∀ i, 0 ≤ i → i < g 1 7 → Nw (102 + 9 * ((g 1 6 + 19 - i) % 20)) 334 (210 * ((g 1 6 + 20 - i) % 20)) u g h
def cTape (g h : mmH) : Prop := (h 282 1 = g 1 1 ∧ 0 ≤ g 1 1 ∧ g 1 1 ≤ 1600) ∧ ∀ i, 0 ≤ i → i < 1600 → h 283 i = g 2 i ∧ 0 ≤ g 2 i ∧ g 2 i ≤ 255
def cSeed (g h : mmH) : Prop := h 282 69 = g 1 8 ∧ 0 ≤ g 1 8 ∧ g 1 8 < 2147483648
def cShot (g h : mmH) : Prop := (h 282 71 = g 1 11 ∧ 0 ≤ g 1 11 ∧ g 1 11 ≤ 46) ∧ ∀ k, 0 ≤ k → k < g 1 11 → h 335 k = g 101 k
def cFault (g h : mmH) : Prop := h 282 7 = g 3 0 ∧ h 282 8 = g 3 1
/-- OWN WORDS, packed -/
def owL : List Int := [19053295, 20972, 207, 679716008, 20099380, 14793, 626850, 12140179, 16423, 168247, 486131888, 679716023, 525484, 2532739, 398504, 641, 500, 406004, 18466, 464151, 26822691, 468018, 21241134, 591, 4545, 20974, 12673, 14637, 24621]
def cOwn (h : mmH) : Prop := ∀ k, 0 ≤ k → k < 29 → h 45 k = owL.getD k.toNat 0
def tFu (u : Int) : Int → Int → Option Int := if u = 5 then tFA else tFB
/-- one side's cells as in g, the reference's as in h -/
def Cp (u : Int) (g h : mmH) : Prop := (u = 5 ∨ u = 46) ∧ (mmInv (tFu u) g ∧ mmInv tFM h) ∧ Tn u 1 g h ∧ Nw 86 329 0 u g h ∧ Pst u g h ∧ cTape g h ∧ cSeed g h ∧ cShot g h ∧ cFault g h ∧ cOwn g
/-- what no answer and nothing to come rests on: one side's cells, the reference's -/
def ScC (v k i : Int) : Prop := k = 44 ∨ k = 85 ∨ ((k = 38 ∨ k = 79) ∧ 8 ≤ i ∧ i ≤ 12) ∨ (96 ≤ k ∧ k ≤ 100) ∨ (k = 3 ∧ 2 ≤ i ∧ i ≤ 6) ∨ (v ≤ k ∧ k ≤ v + 39)
def ScM (k i : Int) : Prop :=
  k = 323 ∨ k = 327 ∨ k = 328 ∨ (330 ≤ k ∧ k ≤ 333) ∨ (k = 282 ∧ ((2 ≤ i ∧ i ≤ 6) ∨ i = 38 ∨ i = 48 ∨ i = 50 ∨ i = 52 ∨ i = 53 ∨ i = 57 ∨ i = 59)) ∨
  (k = 313 ∧ i < 5) ∨ (k = 314 ∧ i < 30) ∨ (k = 315 ∧ i < 50) ∨ (k = 316 ∧ i < 100) ∨ (k = 317 ∧ i < 36) ∨ ((k = 318 ∨ k = 319) ∧ i < 1) ∨ ((k = 320 ∨ k = 321 ∨ k = 324 ∨ k = 325 ∨ k = 326) ∧ i < 8) ∨ (k = 322 ∧ i < 1600)
