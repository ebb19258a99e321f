/-! ===== mm: what reading leaves alone ===== -/
section FR
variable {v : Int} {g g' : mmH}
theorem fr_sk : Fr (ScK v) g (skH g) := Fr.rf.put (by unfold ScK; omega)
theorem fr_ps : Fr (ScK v) g (psH g) := (Fr.rf.put (by unfold ScK; omega)).put (by unfold ScK; omega)
theorem fr_stp : Fr (ScK v) g (stpH g) := Fr.rf.put (by unfold ScK; omega)
theorem fr_fl {w p : Int} : Fr (ScK v) g (flH w p g) := by
  unfold flH
  split
  · exact Fr.rf
  · exact (Fr.rf.put (by unfold ScK; omega)).put (by unfold ScK; omega)
theorem fr_tw {w : Int} : Fr (ScK v) g (twH w g) := by
  unfold twH
  split
  · exact fr_sk.tr fr_ps
  · exact fr_sk.tr fr_fl
theorem fr_ts {c : Int} : Fr (ScK v) g (tsH c g) := by
  unfold tsH
  split
  · exact fr_sk.tr fr_stp
  · exact fr_sk.tr fr_fl
theorem fr_nuT : Fr (ScK v) g (nuT g) := (Fr.rf.put (by unfold ScK; omega)).put (by unfold ScK; omega)
theorem fr_nu {lo hi : Int} : Fr (ScK v) g (nuH lo hi g) := by
  unfold nuH nuF
  split
  · exact (fr_sk.tr fr_nuT).tr fr_fl
  · split
    · exact (fr_sk.tr fr_nuT).tr fr_fl
    · split
      · exact (fr_sk.tr fr_nuT).tr fr_fl
      · exact fr_sk.tr fr_nuT
theorem fr_nmS : Fr (ScK v) g (nmS g) := fr_sk.put (by unfold ScK; omega)
theorem fr_nm : Fr (ScK v) g (nmH g) := by
  unfold nmH nmF
  split
  · exact fr_nmS.tr fr_ps
  · split
    · exact fr_nmS.tr fr_fl
    · split
      · exact fr_nmS.tr fr_fl
      · exact fr_nmS.tr fr_fl
theorem fr_rf {b : Bool} : Fr (ScK v) g (rfH b g) := by
  unfold rfH
  split
  · exact fr_fl
  · exact Fr.rf
theorem fr_may {o : Int} : Fr (ScK v) g (mayH o g) := by
  unfold mayH
  split
  · exact Fr.rf
  · exact fr_fl
theorem fr_put {t : Int} : Fr (ScK v) g (putT v t g) := by
  unfold putT
  split
  · exact (Fr.rf.put (by unfold ScK; omega)).put (by unfold ScK; omega)
  · exact Fr.rf
theorem fr_pair {inner : mmH → mmH} {o : Int} (hi : ∀ g, Fr (ScK v) g (inner g)) : Fr (ScK v) g (pairF inner o g) := by
  unfold pairF
  split
  · split
    · exact fr_sk.tr fr_may
    · exact (((((fr_sk.tr fr_may).tr fr_ts).tr (hi _)).tr fr_ts).tr (hi _)).tr fr_ts
  · exact fr_sk.tr fr_fl
theorem fr_part {inner : mmH → mmH} {o : Int} (hi : ∀ g, Fr (ScK v) g (inner g)) : Fr (ScK v) g (partF v inner o g) := by
  unfold partF
  split
  · exact Fr.rf
  · split
    · exact (fr_sk.tr fr_nu).tr fr_put
    · split
      · split
        · exact fr_sk.tr fr_may
        · exact (((fr_sk.tr fr_may).tr fr_ts).tr (hi _)).tr fr_ts
      · split
        · exact ((fr_sk.tr fr_ps).tr (fr_pair hi)).tr fr_put
        · split
          · exact (fr_sk.tr fr_ps).tr fr_put
          · exact fr_sk.tr fr_fl
theorem fr_lop {p : mmH → mmH} {c1 c2 : Int} (hp : ∀ g, Fr (ScK v) g (p g)) : ∀ (m : Nat) (g : mmH), Fr (ScK v) g (lopF v p c1 c2 m g)
  | 0, _ => Fr.rf
  | m + 1, g => by
    unfold lopF
    split
    · exact Fr.rf
    · split
      · exact (((fr_sk.tr fr_stp).tr (hp _)).tr fr_put).tr (fr_lop hp m _)
      · exact fr_sk
theorem fr_prd {p : mmH → mmH} (hp : ∀ g, Fr (ScK v) g (p g)) : Fr (ScK v) g (prdF v p g) := (hp g).tr (fr_lop hp _ _)
theorem fr_smF {p : mmH → mmH} (hp : ∀ g, Fr (ScK v) g (p g)) : Fr (ScK v) g (smF v p g) := (fr_prd hp).tr (fr_lop (fun _ => fr_prd hp) _ _)
theorem fr_sm : ∀ (n : Nat) (o : Int) (g : mmH), Fr (ScK v) g (smL v n o g)
  | 0, _, _ => Fr.rf
  | n + 1, o, _ => fr_smF (fun _ => fr_part (fr_sm n (o + 1)))
theorem fr_cmp {sm : mmH → mmH} (hs : ∀ g, Fr (ScK v) g (sm g)) : Fr (ScK v) g (cmpF v sm g) := by
  unfold cmpF
  split
  · exact ((((hs g).tr fr_sk).tr fr_stp).tr (hs _)).tr fr_put
  · exact ((hs g).tr fr_sk).tr fr_fl
theorem fr_wlp {p : mmH → mmH} {w t : Int} (hp : ∀ g, Fr (ScK v) g (p g)) : ∀ (m : Nat) (g : mmH), Fr (ScK v) g (wlpF v p w t m g)
  | 0, _ => Fr.rf
  | m + 1, g => by
    unfold wlpF
    split
    · exact Fr.rf
    · split
      · exact (((fr_sk.tr fr_ps).tr (hp _)).tr fr_put).tr (fr_wlp hp m _)
      · exact fr_sk
theorem fr_bt {f : mmH → mmH} (hf : ∀ g, Fr (ScK v) g (f g)) : Fr (ScK v) g (btF v f g) := (hf g).tr (fr_wlp hf _ _)
theorem fr_te {f : mmH → mmH} (hf : ∀ g, Fr (ScK v) g (f g)) : Fr (ScK v) g (teF v f g) := (fr_bt hf).tr (fr_wlp (fun _ => fr_bt hf) _ _)
theorem fr_fc : ∀ (n : Nat) (o : Int) (g : mmH), Fr (ScK v) g (fcL v n o g)
  | 0, _, _ => Fr.rf
  | n + 1, o, g => by
    have hf : ∀ g, Fr (ScK v) g (fcL v n (o + 1) g) := fr_fc n (o + 1)
    unfold fcL fcF
    split
    · exact Fr.rf
    · split
      · split
        · exact fr_sk.tr fr_may
        · exact (((fr_sk.tr fr_may).tr fr_ps).tr (hf _)).tr fr_put
      · split
        · exact (fr_sk.tr fr_ps).tr fr_put
        · split
          · split
            · exact fr_sk.tr fr_may
            · exact (((fr_sk.tr fr_may).tr fr_ts).tr (fr_te hf)).tr fr_ts
          · exact fr_sk.tr (fr_cmp (fr_sm 7 o))
end FR
/-! ===== mm: statements, as heaps ===== -/
def begH (n most : Int) (g : mmH) : mmH := psH (if n < most then g else flH 5 (g 3 4) g)
def knV (v : Int) (g : mmH) (x : Int) : Bool := decide (plcE (g (v + 1)) x (g v 0).toNat 0 ≠ -1 ∨ plcE (g (v + 2)) x (g v 1).toNat 0 ≠ -1 ∨ plcE (g (v + 3)) x (g v 3).toNat 0 ≠ -1)
def newN (v : Int) (g : mmH) : mmH := rfH (knV v (nmH g) (nmX g)) (nmH g)
def obX (v : Int) (g : mmH) : Int := plcE (nmH g (v + 1)) (nmX g) (nmH g v 0).toNat 0
def obH (v : Int) (g : mmH) : mmH := rfH (decide (obX v g = -1)) (nmH g)
def lbX (v : Int) (g : mmH) : Int := plcE (nmH g (v + 2)) (nmX g) (nmH g v 1).toNat 0
def lbH (v : Int) (g : mmH) : mmH := rfH (decide (lbX v g = -1)) (nmH g)
def isLo (v : Int) (g : mmH) (k : Int) : Prop := 0 ≤ k ∧ k < g v 1
def okE (g g' : mmH) : mmH := if g 3 0 ≠ 0 then g else g'
def adO (v x : Int) (g : mmH) : mmH := if g v 0 < 5 then mmS (mmS g (v + 1) (g v 0) x) v 0 (g v 0 + 1) else g
def ownF (v : Int) (g : mmH) : mmH := okE (newN v (begH (g v 0) 5 g)) (adO v (nmX (begH (g v 0) 5 g)) (newN v (begH (g v 0) 5 g)))
def adL (v x o e t : Int) (g : mmH) : mmH := if g v 1 < 10 then mmS (mmS (mmS (mmS (mmS (mmS (mmS g (v + 2) (g v 1) x) (v + 5 + g v 1) 0 o) (v + 5 + g v 1) 1 e) (v + 5 + g v 1) 2 t) (v + 5 + g v 1) 3 0) (v + 5 + g v 1) 4 0) v 1 (g v 1 + 1) else g
def loA (v : Int) (g : mmH) : mmH := twH 2 (newN v (begH (g v 1) 10 g))
def loB (v : Int) (g : mmH) : mmH := twH 3 (obH v (loA v g))
def loC (v : Int) (g : mmH) : mmH := twH 4 (nuH 0 20 (loB v g))
def loD (v : Int) (g : mmH) : mmH := nuH 0 30 (loC v g)
def lotF (v : Int) (g : mmH) : mmH := okE (loD v g) (adL v (nmX (begH (g v 1) 10 g)) (obX v (loA v g)) (nuV (skH (loB v g))) (nuV (skH (loC v g))) (loD v g))
noncomputable def rwB2 (v : Int) (g : mmH) (k i : Int) : Bool := @decide (isLo v g k ∧ g (v + 5 + k) i ≠ 0) (Classical.propDecidable _)
noncomputable def setL (v : Int) (g : mmH) (k i x : Int) : mmH := @ite _ (isLo v g k) (Classical.propDecidable _) (mmS g (v + 5 + k) i x) g
noncomputable def inA (v : Int) (g : mmH) : mmH := twH 6 (rfH (rwB2 v (lbH v (psH g)) (lbX v (psH g)) 3) (lbH v (psH g)))
noncomputable def innF (v : Int) (g : mmH) : mmH := okE (nuH 1 9 (inA v g)) (setL v (nuH 1 9 (inA v g)) (lbX v (psH g)) 3 (nuV (skH (inA v g))))
noncomputable def stA (v : Int) (g : mmH) : mmH := rfH (rwB2 v (lbH v (psH g)) (lbX v (psH g)) 4) (lbH v (psH g))
noncomputable def stoF (v : Int) (g : mmH) : mmH := okE (stA v g) (setL v (stA v g) (lbX v (psH g)) 4 1)
def gaA (v : Int) (g : mmH) : mmH := begH (g v 2) 20 g
def gaB (v : Int) (g : mmH) : mmH := lbH v (gaA v g)
def gaC (v : Int) (g : mmH) : mmH := lbH v (gaB v g)
noncomputable def gaW (v : Int) (g : mmH) (a b : Int) : Bool := @decide (a = b ∨ (isLo v g a ∧ isLo v g b ∧ g (v + 23 + a) b ≠ -1)) (Classical.propDecidable _)
noncomputable def gaD (v : Int) (g : mmH) : mmH := twH 9 (rfH (gaW v (gaC v g) (lbX v (gaA v g)) (lbX v (gaB v g))) (gaC v g))
noncomputable def adG (v a b n : Int) (g : mmH) : mmH := @ite _ (isLo v g a ∧ isLo v g b) (Classical.propDecidable _) (mmS (mmS (mmS g (v + 23 + a) b n) (v + 23 + b) a n) v 2 (g v 2 + 1)) g
noncomputable def gapF (v : Int) (g : mmH) : mmH := okE (nuH 0 9 (gaD v g)) (adG v (lbX v (gaA v g)) (lbX v (gaB v g)) (nuV (skH (gaD v g))) (nuH 0 9 (gaD v g)))
def peW (v r w lo hi i : Int) (g : mmH) : mmH := mmS (nuH lo hi (twH w g)) (v + 16 + r) i (nuV (skH (twH w g)))
def peL (v r w i : Int) (g : mmH) : mmH := mmS (lbH v (twH w g)) (v + 16 + r) i (lbX v (twH w g))
def adP (v x : Int) (g : mmH) : mmH := if g v 3 < 6 then mmS (mmS g (v + 3) (g v 3) x) v 3 (g v 3 + 1) else g
def peA (v : Int) (g : mmH) : mmH := newN v (begH (g v 3) 6 g)
def peR (v : Int) (g : mmH) : Int := mMin (peA v g v 3) 5
def peB (v : Int) (g : mmH) : mmH := peW v (peR v g) 14 0 9 3 (peW v (peR v g) 13 0 20 2 (peW v (peR v g) 12 0 9 1 (peW v (peR v g) 11 1 99 0 (peA v g))))
def peC (v : Int) (g : mmH) : mmH := peL v (peR v g) 16 5 (peL v (peR v g) 15 4 (peB v g))
def peD (v : Int) (g : mmH) : mmH := rfH (decide (peC v g (v + 16 + peR v g) 4 = peC v g (v + 16 + peR v g) 5)) (peC v g)
def perF (v : Int) (g : mmH) : mmH := okE (peD v g) (adP v (nmX (begH (g v 3) 6 g)) (peD v g))
def adW (v o s t : Int) (g : mmH) : mmH := if g (v + 33) 0 < 8 then mmS (mmS (mmS (mmS (mmS g (v + 34) (g (v + 33) 0) o) (v + 35) (g (v + 33) 0) s) (v + 36) (g (v + 33) 0) t) (v + 37) (g (v + 33) 0) (g (v + 33) 1)) (v + 33) 0 (g (v + 33) 0 + 1) else g
def laA (v : Int) (g : mmH) : mmH := begH (g (v + 33) 0) 8 g
def laB (v : Int) (g : mmH) : mmH := obH v (laA v g)
def laC (v : Int) (s : Bool) (g : mmH) : mmH := twH 19 (if s = true then smL v 7 0 (laB v g) else laB v g)
def laD (v : Int) (s : Bool) (g : mmH) : mmH := teF v (fcL v 7 0) (laC v s g)
def lawF (v : Int) (s : Bool) (g : mmH) : mmH := okE (laD v s g) (adW v (obX v (laA v g)) (laB v g (v + 33) 1) (laC v s g (v + 33) 1) (laD v s g))
def numF (v i lo hi : Int) (g : mmH) : mmH := mmS (nuH lo hi (psH g)) v i (nuV (skH (psH g)))
noncomputable def bodF (v w : Int) (g : mmH) : mmH :=
  if w = 0 then ownF v g else if w = 1 then lotF v g else if w = 5 then innF v g else if w = 7 then stoF v g else if w = 8 then gapF v g else if w = 10 then perF v g else if w = 17 then lawF v true g else if w = 18 then lawF v false g else if w = 20 then numF v 4 1 20 g else if w = 21 then numF v 5 0 100 g else flH 1 (g 3 4) g
noncomputable def stmF (v : Int) (g : mmH) : mmH := tsH 59 (bodF v (wdV (skH g)) (skH g))
