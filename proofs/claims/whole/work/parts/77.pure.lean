/-! PURE: the beginning, and the claim -/
set_option maxRecDepth 20000
theorem s0_V : pn_s0 86 0 = 0 ∧ pn_s0 86 11 = 0 ∧ (rg (pn_s0 86 1) 0 12 ∧ rg (pn_s0 86 3) 0 9999 ∧ rg (pn_s0 86 4) 0 1 ∧ rg (pn_s0 86 5) (-1) (-1) ∧ rg (pn_s0 86 6) 0 2 ∧ rg (pn_s0 86 7) 0 100 ∧ rg (pn_s0 86 8) 0 100 ∧ rg (pn_s0 86 9) 0 30 ∧ rg (pn_s0 86 10) 0 20) := by unfold rg; decide +kernel
theorem s0_C : (pn_s0 5 2 = pn_s0 86 0 ∧ pn_s0 5 3 = pn_s0 86 1 ∧ pn_s0 5 4 = pn_s0 86 5 ∧ pn_s0 5 5 = pn_s0 86 6 ∧ pn_s0 5 6 = pn_s0 86 3 ∧ pn_s0 5 7 = pn_s0 86 4 ∧ pn_s0 5 8 = pn_s0 86 7 ∧ pn_s0 5 9 = pn_s0 86 8 ∧ pn_s0 5 10 = pn_s0 86 9 ∧ pn_s0 5 11 = pn_s0 86 10 ∧ pn_s0 5 12 = pn_s0 86 12 ∧ pn_s0 5 13 = pn_s0 86 11) ∧ pn_s0 5 14 = nI 0 := by decide +kernel
theorem s0_L : pn_s0 14 6 = -1 ∧ pn_s0 86 2 = 0 := by decide +kernel
theorem s0_T : pn_s0 1 3 = nI 0 ∧ pn_s0 85 9 = nI 0 ∧ pn_s0 41 1 = nI 0 ∧ pn_s0 41 2 = nI 0 ∧ pn_s0 85 7 = nI 0 ∧ pn_s0 0 14 = pn_s0 85 6 ∧ pn_s0 85 6 = 0 ∧ pn_s0 0 15 = pn_s0 85 14 := by decide +kernel
theorem inv_0 : Inv pn_s0 false (0, fun _ => 0, fun _ => 0, fun _ => 0, fun _ => 0) := by
  obtain ⟨v0, v11, v1, v3, v4, v5, v6, v7, v8, v9, v10⟩ := s0_V
  obtain ⟨c1, c2⟩ := s0_C
  obtain ⟨t1, t2, t3, t4, t5, t6, t7, t8⟩ := s0_T
  have n0 : vn (pn_s0 86) = 0 := by unfold vn; rw [v0]; rfl
  have l0 : vl (pn_s0 86) = 0 := by unfold vl; rw [v11]; rfl
  refine ⟨⟨c1, fun k hk => ?_, 0, by omega, c2, fun a ha => ?_⟩, ⟨?_, v1, v3, v4, ?_, v6, v7, v8, v9, v10, ?_, fun p hp => ?_⟩, ⟨s0_L.1, fun _ => rfl, fun i hi => ?_, fun j hj => ?_⟩, ⟨s0_L.2, fun _ => rfl, fun q => (by cases q), fun i hi => ?_, fun j hj => ?_⟩, ⟨by show 0 ≤ 12; omega, rfl, by show 0 ≤ 400; omega, fun i hi => ?_⟩, ⟨0, by omega, t1, t2, fun i hi => by omega⟩, ⟨0, 0, by omega, by omega, t3, t4, t5, fun j hj => by omega⟩, ⟨t6, Or.inl t7, fun q => ?_⟩, t8⟩
  · rw [n0] at hk; omega
  · rw [l0] at ha; omega
  · rw [v0]; exact ⟨by decide, by decide⟩
  · rw [n0]; exact v5
  · rw [v11]; exact ⟨by decide, by decide⟩
  · rw [n0] at hp; omega
  · exact absurd hi (Nat.not_lt_zero _)
  · exact absurd hj (Nat.not_lt_zero _)
  · exact absurd hi (Nat.not_lt_zero _)
  · exact absurd hj (Nat.not_lt_zero _)
  · exact absurd hi (Nat.not_lt_zero _)
  · rw [t7] at q; exact absurd q (by decide)
theorem pure_all : pn_Pure := fun L xs hL => by
  obtain ⟨σ', k, e, hk⟩ := lw_loop L xs hL 4999 0 pn_s0 _ _ inv_0 (by omega) (by omega)
  exact ⟨σ', k, e, by omega⟩
