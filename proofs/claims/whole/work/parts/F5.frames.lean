/-! ===== mm: where a town's telling writes ===== -/
def TK (v k i : Int) : Prop := ScK v k i ∨ (v ≤ k ∧ k ≤ v + 37)
section TF
variable {v m : Int} {g g' g1 g2 : mmH}
theorem tk (h : Fr (ScK v) g g') : Fr (TK v) g g' := h.mono (fun k i q => Or.inl q)
theorem tkp {k i x : Int} (a : Fr (TK v) g g') (h1 : v ≤ k) (h2 : k ≤ v + 37) : Fr (TK v) g (mmS g' k i x) := a.put (Or.inr ⟨h1, h2⟩)
theorem ft_ok (a : Fr (TK v) g g1) (b : Fr (TK v) g1 g2) : Fr (TK v) g (okE g1 g2) := by
  unfold okE
  split
  · exact a
  · exact a.tr b
theorem fr_beg {n k : Int} : Fr (ScK v) g (begH n k g) := by
  unfold begH
  split
  · exact fr_ps
  · exact fr_fl.tr fr_ps
theorem ft_own (hv : v = 5 ∨ v = 46) : Fr (TK v) g (ownF v g) := by
  refine ft_ok (tk (fr_beg.tr fr_newN)) ?_
  unfold adO
  split
  · exact tkp (tkp Fr.rf (by omega) (by omega)) (by omega) (by omega)
  · exact Fr.rf
theorem fr_loD : Fr (ScK v) g (loD v g) := (((((((fr_beg.tr fr_newN).tr fr_tw).tr fr_ob).tr fr_tw).tr fr_nu).tr fr_tw).tr fr_nu)
theorem ft_lot (hv : v = 5 ∨ v = 46) (h : St v m g) : Fr (TK v) g (lotF v g) := by
  have s := (St_loD hv h).2.2.1
  refine ft_ok (tk fr_loD) ?_
  unfold adL
  split
  · exact tkp (tkp (tkp (tkp (tkp (tkp (tkp Fr.rf (by omega) (by omega)) (by omega) (by omega)) (by omega) (by omega)) (by omega) (by omega)) (by omega) (by omega)) (by omega) (by omega)) (by omega) (by omega)
  · exact Fr.rf
theorem ft_setL {k i x : Int} (hv : v = 5 ∨ v = 46) (h : St v m g) : Fr (TK v) g (setL v g k i x) := by
  have s := h.2.2.1
  unfold setL
  split
  · next q => unfold isLo at q; exact tkp Fr.rf (by omega) (by omega)
  · exact Fr.rf
theorem ft_inn (hv : v = 5 ∨ v = 46) (h : St v m g) : Fr (TK v) g (innF v g) :=
  ft_ok (tk ((((fr_ps.tr fr_lb).tr fr_rf).tr fr_tw).tr fr_nu)) (ft_setL hv (St_nu hv (St_inA hv h)))
theorem ft_sto (hv : v = 5 ∨ v = 46) (h : St v m g) : Fr (TK v) g (stoF v g) :=
  ft_ok (tk ((fr_ps.tr fr_lb).tr fr_rf)) (ft_setL hv (St_stA hv h))
theorem ft_gap (hv : v = 5 ∨ v = 46) (h : St v m g) : Fr (TK v) g (gapF v g) := by
  have s := (St_nu (lo := 0) (hi := 9) hv (St_gaD hv h)).2.2.1
  refine ft_ok (tk (((((fr_beg.tr fr_lb).tr fr_lb).tr fr_rf).tr fr_tw).tr fr_nu)) ?_
  unfold adG
  split
  · next q =>
    unfold isLo at q
    exact tkp (tkp (tkp Fr.rf (by omega) (by omega)) (by omega) (by omega)) (by omega) (by omega)
  · exact Fr.rf
theorem ft_peW {r w lo hi i : Int} (hr : 0 ≤ r ∧ r < 6) : Fr (TK v) g (peW v r w lo hi i g) := tkp (tk (fr_tw.tr fr_nu)) (by omega) (by omega)
theorem ft_peL {r w i : Int} (hr : 0 ≤ r ∧ r < 6) : Fr (TK v) g (peL v r w i g) := tkp (tk (fr_tw.tr fr_lb)) (by omega) (by omega)
theorem ft_peD (hv : v = 5 ∨ v = 46) (h : St v m g) : Fr (TK v) g (peD v g) := by
  have hr := peR_ok hv h
  exact (((((((tk (fr_beg.tr fr_newN)).tr (ft_peW hr)).tr (ft_peW hr)).tr (ft_peW hr)).tr (ft_peW hr)).tr (ft_peL hr)).tr (ft_peL hr)).tr (tk fr_rf)
theorem ft_per (hv : v = 5 ∨ v = 46) (h : St v m g) : Fr (TK v) g (perF v g) := by
  refine ft_ok (ft_peD hv h) ?_
  unfold adP
  split
  · exact tkp (tkp Fr.rf (by omega) (by omega)) (by omega) (by omega)
  · exact Fr.rf
theorem fr_laD {s : Bool} : Fr (ScK v) g (laD v s g) := by
  refine Fr.tr ?_ (fr_te (fr_fc 7 0))
  unfold laC
  refine Fr.tr ?_ fr_tw
  split
  · exact (fr_beg.tr fr_ob).tr (fr_sm 7 0 _)
  · exact fr_beg.tr fr_ob
theorem ft_law {s : Bool} (hv : v = 5 ∨ v = 46) : Fr (TK v) g (lawF v s g) := by
  refine ft_ok (tk fr_laD) ?_
  unfold adW
  split
  · exact tkp (tkp (tkp (tkp (tkp Fr.rf (by omega) (by omega)) (by omega) (by omega)) (by omega) (by omega)) (by omega) (by omega)) (by omega) (by omega)
  · exact Fr.rf
theorem ft_num {i lo hi : Int} (hv : v = 5 ∨ v = 46) : Fr (TK v) g (numF v i lo hi g) := tkp (tk (fr_ps.tr fr_nu)) (by omega) (by omega)
theorem ft_bod {w : Int} (hv : v = 5 ∨ v = 46) (h : St v m g) : Fr (TK v) g (bodF v w g) := by
  unfold bodF
  split
  · exact ft_own hv
  · split
    · exact ft_lot hv h
    · split
      · exact ft_inn hv h
      · split
        · exact ft_sto hv h
        · split
          · exact ft_gap hv h
          · split
            · exact ft_per hv h
            · split
              · exact ft_law hv
              · split
                · exact ft_law hv
                · split
                  · exact ft_num hv
                  · split
                    · exact ft_num hv
                    · exact tk fr_fl
theorem ft_stm (hv : v = 5 ∨ v = 46) (h : St v m g) : Fr (TK v) g (stmF v g) := ((tk fr_sk).tr (ft_bod hv (St_sk hv h))).tr (tk fr_ts)
theorem ft_lp (hv : v = 5 ∨ v = 46) : ∀ (j : Nat) (m : Int) (g : mmH), St v m g → Fr (TK v) g (lpH v j g)
  | 0, _, _, _ => Fr.rf
  | j + 1, m, g, h => by
    show Fr (TK v) g (if skH g 3 0 = 0 ∧ skH g 3 4 < skH g 3 3 then lpH v j (stmF v (skH g)) else skH g)
    split
    · exact ((tk fr_sk).tr (ft_stm hv (St_sk hv h))).tr (ft_lp hv j (m + 1) _ (St_stm hv (St_sk hv h)))
    · exact tk fr_sk
theorem ft_eo (hv : v = 5 ∨ v = 46) (h : St v m g) : Fr (TK v) g (eoT v g) := by
  refine (ft_lp hv 80 m g h).tr ?_
  unfold eoT clsH
  split
  · exact tk (fr_sk.tr fr_fl)
  · exact tk fr_sk
end TF
