/-! ===== mm: a statement's end ===== -/
section EN
variable {d : Nat} {P : Prop} {v n0 z0 k : Int} {m g h : mmH} {Q : Int → mmH → Prop}
/-- like o_owner, with what the reference wrote -/
theorem o_ownerF (hv : v = 5 ∨ v = 46) (hO : SO P v n0 z0 k m g h) (hy : ∀ x h', (obH v g 3 0 = 0 → x = obX v g ∧ 0 ≤ x ∧ x < g v 0) → SO True v n0 z0 k m (obH v g) h' → Fr MsK h h' → Q x h') : qC tFM (d + 5) k_m_oneOf [282, 0] h Q :=
  q_m_oneOf (a := 0) hv (Or.inl rfl) hO.1.1 hO.1.2 hO.2.2.1 (Fr.rf (h := h)) (fun x h' e1 _ R _ F => hy x h' e1 (SO_sc hv hO (Sc_ob hv hO.1.1) R F r3_ob sk_ob (pl_ob hv hO.1.1)) F)
theorem e_asksSign {a : Int} (hv : v = 5 ∨ v = 46) (ha : a ≠ -1) (hE : SE v n0 z0 k m g h) (hy : ∀ h', SO False v n0 z0 k m (tsH a g) h' → Q 0 h') : qC tFM (d + 3) k_m_asksSign [282, a] h Q := by
  obtain ⟨g0, ⟨s0, e0, r0⟩, o1, o3, o4, ⟨o5, o6⟩, o7, o8, o9⟩ := hE
  have := q_m_asksSign (d := d) (m := h) (Q := Q) hv ha s0 r0 Fr.rf
  rw [show tsH a g0 = tsH a g by unfold tsH; rw [e0]] at this
  refine this (fun h' R F => hy h' ?_)
  have f : ∀ k i, ¬ MsK k i → h' k i = h k i := F
  refine ⟨⟨Sc_ts hv ha o1, R⟩, fun ok => ?_, Nc_ms (Nc_r3 hv r3_ts o4) F, ⟨⟨?_, ?_⟩, o6.tr (F.mono (fun k i q => ?_))⟩, ?_, ?_, ?_⟩
  · obtain ⟨p0, p1, p2, p3⟩ := pl_ts hv o1 ok
    exact ⟨Tz_sc hv r3_ts F (o3 p0).1, by have := (o3 p0).2; omega⟩
  · rw [f 0 0 (by unfold MsK; omega)]; exact o5.1
  · rw [f 0 1 (by unfold MsK; omega)]; exact o5.2
  · unfold MsK at q; unfold ScM; omega
  · rw [f 282 48 (by unfold MsK; omega)]; exact o7
  · rw [f 282 50 (by unfold MsK; omega)]; exact o8
  · rw [f 313 3 (by unfold MsK; omega), f 313 4 (by unfold MsK; omega)]; exact o9
end EN
