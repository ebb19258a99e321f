/-! ===== mm: sums and tests told, as wholes ===== -/
section TO
variable {d e : Nat} {v n0 z0 s o b b' c k was : Int} {m g g' h h' : mmH} {Q : Int → mmH → Prop} {W P : List Int} {p : mmH → mmH}
theorem S_fcL (hv : v = 5 ∨ v = 46) (hs : 3 ≤ s) : ∀ (n : Nat) (o : Int), 0 ≤ o → o ≤ 6 → 6 ≤ o + n → SimF e v n0 z0 s b m Q (fcL v (n + 1) o) o := by
  have te : ∀ (n : Nat) (o : Int), 0 ≤ o → o ≤ 6 → 6 ≤ o + n → SimF e v n0 z0 s b m Q (fcL v (n + 1) o) o → SimT e v n0 z0 s b m Q (teF v (fcL v (n + 1) o)) o := fun n o o1 o2 o3 hp => by
    have hm : ∀ g, Sc v g → g (v + 33) 1 ≤ g 3 4 → AdT v (22 + 2 * (n + 1)) true g (fcL v (n + 1) o g) := fun g q1 q2 => AdT_fc hv (n + 1) o g (by omega) (by omega) (by omega) q1 q2
    have Sb := S_bt hv hp (Sc_fc hv (n + 1) o) (fr_fc (n + 1) o) (fun g q1 q2 q3 => (hm g q1 q2 q3).1.2.1)
    exact S_te hv Sb (Sc_fc hv (n + 1) o) (fr_fc (n + 1) o) (fun g q1 q2 q3 => (AdT_bt hv (Sc_fc hv (n + 1) o) (sk_fc (n + 1) o) hm q1 q2 q3).1.2.1)
  intro n
  induction n with
  | zero => exact fun o o1 o2 o3 => S_fact hv ⟨o1, o2⟩ hs (fun z => absurd z (by omega)) (fun z => absurd z (by omega)) (fun _ q => Sc_te hv (Sc_fc hv 0 (o + 1)) q)
  | succ n ih => exact fun o o1 o2 o3 => S_fact hv ⟨o1, o2⟩ hs (fun z => ih (o + 1) (by omega) (by omega) (by omega)) (fun z => te n (o + 1) (by omega) (by omega) (by omega) (ih (o + 1) (by omega) (by omega) (by omega))) (fun _ q => Sc_te hv (Sc_fc hv (n + 1) (o + 1)) q)
theorem S_te0 (hv : v = 5 ∨ v = 46) (hs : 3 ≤ s) : SimT e v n0 z0 s b m Q (teF v (fcL v 7 0)) 0 := by
  have hm : ∀ g, Sc v g → g (v + 33) 1 ≤ g 3 4 → AdT v (22 + 2 * 7) true g (fcL v 7 0 g) := fun g q1 q2 => AdT_fc hv 7 0 g (by omega) (by omega) (by omega) q1 q2
  have Sb := S_bt (o := 0) (e := e) (n0 := n0) (z0 := z0) (s := s) (b := b) (m := m) (Q := Q) hv (S_fcL hv hs 6 0 (by omega) (by omega) (by omega)) (Sc_fc hv 7 0) (fr_fc 7 0) (fun g q1 q2 q3 => (hm g q1 q2 q3).1.2.1)
  exact S_te hv Sb (Sc_fc hv 7 0) (fr_fc 7 0) (fun g q1 q2 q3 => (AdT_bt hv (Sc_fc hv 7 0) (sk_fc 7 0) hm q1 q2 q3).1.2.1)
theorem T_drain (hv : v = 5 ∨ v = 46) {x : Int} {w2 : mmV} : ∀ (P : List Int) (h : mmH), RW v n0 z0 s o b m g h [] P → (∀ h', RW v n0 z0 s o b m g h' [] [] → Q 0 h') → qB tFM (e + 8) k_m_test n0 z0 Q 6 [(3, 282), (1, x), w2] [] h
  | [], h, hR, hy => by
    have e1 : h 282 52 = 0 := hR.2.2.1.1
    exact T_m_test_6 _ _ _ _ _ _ _ ⟨fun q => absurd (RW_5 hR) q, fun _ => ⟨fun _ => hy _ hR, fun q => absurd (show h 282 52 ≤ 0 by omega) q⟩⟩
  | p :: P, h, hR, hy => by
    have e1 : h 282 52 = ((P ++ []).length : Int) + 1 := by rw [hR.2.2.1.1]; show (((P ++ []).length + 1 : Nat) : Int) = _; omega
    exact T_m_test_6 _ _ _ _ _ _ _ ⟨fun q => absurd (RW_5 hR) q, fun _ => ⟨fun q => absurd q (by omega), fun _ => q_m_drops (d := e + 6) hv hR (fun h' R => T_drain hv P h' R hy)⟩⟩
theorem q_m_test (hv : v = 5 ∨ v = 46) (hs : 3 ≤ s) (hR : RW v n0 z0 s 0 b m g h [] []) (h1 : ∀ h', RW v n0 z0 s 0 b m (teF v (fcL v 7 0) g) h' [] [] → Q 0 h') (h2 : ∀ h', BD v n0 z0 (1602 - s) m (teF v (fcL v 7 0) g) h' → Q 0 h') : qC tFM (e + 9) k_m_test [282] h Q := by
  refine qC_intro ?_
  have k0 := hR.2.1.1
  rw [k0.1, k0.2]
  refine T_m_test_0 _ _ _ _ _ (S_te0 (e := e) hv hs g h [] hR ⟨by show (0 : Int) ≠ 1; omega, by show (0 : Int) ≠ 2; omega, by show (0 : Int) ≠ 3; omega, by show (0 : Int) ≠ 4; omega⟩ ⟨by show (0 : Int) ≠ 15; omega, by show (0 : Int) ≠ 16; omega, by show (0 : Int) ≠ 17; omega⟩ (fun h' P R hP hx => ?_) h2 _)
  generalize teF v (fcL v 7 0) g = T at R hx h1
  have hkT : skH (skH T) = skH T := skd_id (skd_sk R.1.2.1.2.1.2.1)
  have n25 : ¬ (25 : Int) ∈ P ++ [] := fun z => by
    rw [List.append_nil] at z
    have := hP 25 z
    omega
  refine G_0 hv R (fun _ z => absurd z n25) (fun _ he re Re => ?_)
  refine G_3no hv hkT re Re hx (fun _ hf Rf => ⟨fun _ w2 => ?_, fun z => absurd rfl z⟩) (fun z => absurd z n25)
  exact T_m_test_1 _ _ _ _ _ _ _ ⟨fun _ => T_drain hv P hf (RW_unsk hv R Rf) h1, fun z => absurd rfl z⟩
end TO
