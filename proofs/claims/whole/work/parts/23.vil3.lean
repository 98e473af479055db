/-! PURE: a village's log, its draws, its end of a night -/
theorem jmax (a b : Int32) (σ : pn_S) : fJ9_max_7cf53 a b σ = some (if a < b then b else a) := by
  unfold fJ9_max_7cf53
  split <;> rfl
theorem jmin (a b : Int32) (σ : pn_S) : fJ9_min_7cf53 a b σ = some (if b < a then b else a) := by
  unfold fJ9_min_7cf53
  split <;> rfl
/-- one more row, ahead of the others -/
def vsh (V : pn_V) (r : Nat → Int32) : pn_V := fun k => if 77 ≤ k ∧ k < 317 then (if k < 81 then r (k - 77) else V (k - 4)) else if k = 11 then nI (min 60 (vl V + 1)) else V k
theorem vsh_lo {V : pn_V} {r : Nat → Int32} {k : Nat} (h : k < 77) (h2 : k ≠ 11) : vsh V r k = V k := by
  unfold vsh
  rw [if_neg (by omega), if_neg h2]
theorem vsh_11 {V : pn_V} {r : Nat → Int32} : vsh V r 11 = nI (min 60 (vl V + 1)) := by
  unfold vsh
  rw [if_neg (by omega), if_pos rfl]
theorem vsh_vl {V : pn_V} {r : Nat → Int32} : vl (vsh V r) = min 60 (vl V + 1) := by
  unfold vl
  rw [vsh_11, nI_clamp (by omega)]
  rfl
theorem vsh_vn {V : pn_V} {r : Nat → Int32} : vn (vsh V r) = vn V := by
  unfold vn
  rw [vsh_lo (by omega) (by omega)]
theorem c_addRow {σ : pn_S} {v : Nat} {V : pn_V} (h : CV σ v V) (hw : VW V) (t many what : Int32) : ∃ σ', fX8_addRow v t many what σ = some σ' ∧ CV σ' v (vsh V (fun k => if k = 0 then V 3 else if k = 1 then t else if k = 2 then many else what)) ∧ Fr (fun i => i = v ∨ i = v + 1 ∨ i = v + 2) σ σ' := by
  have hn := hw.n.2
  have hl := hw.l
  obtain ⟨⟨g2, g3, g4, g5, g6, g7, g8, g9, g10, g11, g12, g13⟩, h2, x0, hx0, h3, h4⟩ := h
  have e4 : nI x0 * 4 = nI (4 * x0) := by rw [q_lit 4, pk_mul, Nat.mul_comm]
  have ek : ∀ k, nI (4 * x0) + nI k = nI (4 * x0 + k) := fun k => nI_add _ _
  generalize hr : (fun k => if k = 0 then V 3 else if k = 1 then t else if k = 2 then many else what : Nat → Int32) = r
  refine ⟨pn_up (pn_up (pn_ua σ (v + 2) (fun j => if 4 * x0 ≤ j ∧ j < 4 * x0 + 4 then r (j - 4 * x0) else σ (v + 2) j)) v 14 (nI ((x0 + 1) % 60))) v 13 (nI (min 60 (vl V + 1))), ?_, ⟨?_, ?_, (x0 + 1) % 60, by omega, ?_, ?_⟩, ?_⟩
  · unfold fX8_addRow
    rw [h3, e4, if_neg (nI_pos (by omega)), if_pos (show nI (4 * x0) + 4 ≤ Int32.ofNat 240 by rw [q_lit 4, ek]; exact nI_le (b := 240) (by omega) (by omega))]
    rw [if_pos (show pn_ib (nI (4 * x0) + 0) 240 = true by rw [q_lit 0, ek]; exact q_ib (by omega) (by omega)), if_pos (show pn_ib (nI (4 * x0) + 1) 240 = true by rw [q_lit 1, ek]; exact q_ib (by omega) (by omega)), if_pos (show pn_ib (nI (4 * x0) + 2) 240 = true by rw [q_lit 2, ek]; exact q_ib (by omega) (by omega)), if_pos (show pn_ib (nI (4 * x0) + 3) 240 = true by rw [q_lit 3, ek]; exact q_ib (by omega) (by omega))]
    have c0 : (nI (4 * x0) + 0).toNatClampNeg = 4 * x0 := by rw [q_lit 0, ek]; exact nI_clamp (by omega)
    have c1 : (nI (4 * x0) + 1).toNatClampNeg = 4 * x0 + 1 := by rw [q_lit 1, ek]; exact nI_clamp (by omega)
    have c2 : (nI (4 * x0) + 2).toNatClampNeg = 4 * x0 + 2 := by rw [q_lit 2, ek]; exact nI_clamp (by omega)
    have c3 : (nI (4 * x0) + 3).toNatClampNeg = 4 * x0 + 3 := by rw [q_lit 3, ek]; exact nI_clamp (by omega)
    rw [c0, c1, c2, c3, g6]
    have hup : pn_up (pn_up (pn_up (pn_up σ (v + 2) (4 * x0) (V 3)) (v + 2) (4 * x0 + 1) t) (v + 2) (4 * x0 + 2) many) (v + 2) (4 * x0 + 3) what = pn_ua σ (v + 2) (fun j => if 4 * x0 ≤ j ∧ j < 4 * x0 + 4 then r (j - 4 * x0) else σ (v + 2) j) := by
      subst hr
      funext i j
      by_cases e : i = v + 2
      · subst e
        simp only [pn_up, pn_ua, if_true]
        by_cases j3 : j = 4 * x0 + 3
        · rw [if_pos j3, if_pos (by omega), if_neg (by omega), if_neg (by omega), if_neg (by omega)]
        · rw [if_neg j3]
          by_cases j2 : j = 4 * x0 + 2
          · rw [if_pos j2, if_pos (by omega), if_neg (by omega), if_neg (by omega), if_pos (by omega)]
          · rw [if_neg j2]
            by_cases j1 : j = 4 * x0 + 1
            · rw [if_pos j1, if_pos (by omega), if_neg (by omega), if_pos (by omega)]
            · rw [if_neg j1]
              by_cases j0 : j = 4 * x0
              · rw [if_pos j0, if_pos (by omega), if_pos (by omega)]
              · rw [if_neg j0, if_neg (by omega)]
      · simp [pn_up, pn_ua, e]
    rw [hup]
    unfold fX8_addRow_69
    have s14 : pn_ua σ (v + 2) (fun j => if 4 * x0 ≤ j ∧ j < 4 * x0 + 4 then r (j - 4 * x0) else σ (v + 2) j) v 14 = nI x0 := by rw [pn_ua_a _ _ _ (by omega)]; exact h3
    have s13 : pn_ua σ (v + 2) (fun j => if 4 * x0 ≤ j ∧ j < 4 * x0 + 4 then r (j - 4 * x0) else σ (v + 2) j) v 13 = nI (vl V) := by rw [pn_ua_a _ _ _ (by omega), g13]; exact hl.1
    rw [s14, nI_1, q_lit 60, pk_rem (a := x0 + 1) (d := 60) (by omega) (by omega) (by omega)]
    rw [jmin]
    rw [pn_up_k _ _ _ _ (by omega), s13, nI_1]
    show some _ = some _
    refine congrArg (fun z => some (pn_up _ v 13 z)) ?_
    by_cases hq : vl V + 1 < 60
    · rw [if_pos (nI_lt hq (by omega)), show min 60 (vl V + 1) = vl V + 1 by omega]
    · rw [if_neg (nI_nlt (by omega) (by omega)), show min 60 (vl V + 1) = 60 by omega]
  · have hv : ∀ j, j ≠ 13 → j ≠ 14 → pn_up (pn_up (pn_ua σ (v + 2) (fun j => if 4 * x0 ≤ j ∧ j < 4 * x0 + 4 then r (j - 4 * x0) else σ (v + 2) j)) v 14 (nI ((x0 + 1) % 60))) v 13 (nI (min 60 (vl V + 1))) v j = σ v j := fun j a b => by
      rw [pn_up_k _ _ _ _ a, pn_up_k _ _ _ _ b, pn_ua_a _ _ _ (by omega)]
    rw [hv 2 (by omega) (by omega), hv 3 (by omega) (by omega), hv 4 (by omega) (by omega), hv 5 (by omega) (by omega), hv 6 (by omega) (by omega), hv 7 (by omega) (by omega), hv 8 (by omega) (by omega), hv 9 (by omega) (by omega), hv 10 (by omega) (by omega), hv 11 (by omega) (by omega), hv 12 (by omega) (by omega), pn_up_s, vsh_11]
    rw [vsh_lo (by omega) (by omega), vsh_lo (by omega) (by omega), vsh_lo (by omega) (by omega), vsh_lo (by omega) (by omega), vsh_lo (by omega) (by omega), vsh_lo (by omega) (by omega), vsh_lo (by omega) (by omega), vsh_lo (by omega) (by omega), vsh_lo (by omega) (by omega), vsh_lo (by omega) (by omega), vsh_lo (by omega) (by omega)]
    exact ⟨g2, g3, g4, g5, g6, g7, g8, g9, g10, g11, g12, rfl⟩
  · intro k hk
    rw [vsh_vn] at hk
    rw [pn_up_a _ _ _ _ (by omega), pn_up_a _ _ _ _ (by omega), pn_ua_a _ _ _ (by omega), vsh_lo (by omega) (by omega)]
    exact h2 k hk
  · rw [pn_up_k _ _ _ _ (by omega), pn_up_s]
  · intro a ha k hk
    rw [vsh_vl] at ha
    rw [pn_up_a _ _ _ _ (by omega), pn_up_a _ _ _ _ (by omega), pn_ua_s]
    by_cases ha0 : a = 0
    · subst ha0
      have eR : vsh V r (77 + 4 * 0 + k) = r k := by
        unfold vsh
        rw [if_pos (by omega), if_pos (by omega)]
        exact congrArg r (by omega)
      rw [eR, if_pos (by omega)]
      exact congrArg r (by omega)
    · have eR : vsh V r (77 + 4 * a + k) = V (77 + 4 * (a - 1) + k) := by
        unfold vsh
        rw [if_pos (by omega), if_neg (by omega)]
        exact congrArg V (by omega)
      have hne : (((x0 + 1) % 60 + 59 - a) % 60) ≠ x0 := by omega
      have := h4 (a - 1) (by omega) k hk
      rw [eR, if_neg (by omega), ← this]
      exact congrArg (σ (v + 2)) (by omega)
  · intro i hi
    have q0 : ¬ i = v := fun e => hi (Or.inl e)
    have q2 : ¬ i = v + 2 := fun e => hi (Or.inr (Or.inr e))
    rw [pn_up_a _ _ _ _ q0, pn_up_a _ _ _ _ q0, pn_ua_a _ _ _ q2]
theorem vsh_W {V : pn_V} (hw : VW V) (r : Nat → Int32) : VW (vsh V r) := by
  have hn := hw.n.2
  unfold VW
  rw [vsh_vn, vsh_11, vsh_lo (by omega) (by omega), vsh_lo (by omega) (by omega), vsh_lo (by omega) (by omega), vsh_lo (by omega) (by omega), vsh_lo (by omega) (by omega), vsh_lo (by omega) (by omega), vsh_lo (by omega) (by omega), vsh_lo (by omega) (by omega), vsh_lo (by omega) (by omega), vsh_lo (by omega) (by omega)]
  obtain ⟨a1, a2, a3, a4, a5, a6, a7, a8, a9, a10, a11, h12⟩ := hw
  refine ⟨a1, a2, a3, a4, a5, a6, a7, a8, a9, a10, ⟨?_, ?_⟩, fun p hp => ?_⟩
  · rw [nI_toInt (by omega)]; omega
  · rw [nI_toInt (by omega)]; omega
  · have e : ∀ k, k < 8 → tr (vsh V r) p k = tr V p k := fun k hk => vsh_lo (by omega) (by omega)
    rw [e 0 (by omega), e 1 (by omega), e 2 (by omega), e 3 (by omega), e 4 (by omega), e 5 (by omega), e 6 (by omega), e 7 (by omega)]
    exact h12 p hp
/-- a row of the log -/
theorem c_row {σ : pn_S} {v : Nat} {V : pn_V} (h : CV σ v V) (hw : VW V) {k : Nat} (hk : k < 4) (a : Int32) : fX8_row v a (nI k) σ = some (if 0 ≤ a.toInt ∧ a.toInt < vl V then V (77 + 4 * a.toNatClampNeg + k) else -1) := by
  have hl := hw.l
  obtain ⟨⟨g2, g3, g4, g5, g6, g7, g8, g9, g10, g11, g12, g13⟩, h2, x0, hx0, h3, h4⟩ := h
  have e2 : (nI (vl V)).toInt = vl V := nI_toInt (by omega)
  unfold fX8_row
  rw [g13, hl.1]
  by_cases h0 : a < 0
  · rw [if_pos h0, if_neg]
    rw [q_lt] at h0
    have : (0 : Int32).toInt = 0 := rfl
    omega
  · rw [if_neg h0]
    have h0' : 0 ≤ a.toInt := by
      rw [q_lt] at h0
      have : (0 : Int32).toInt = 0 := rfl
      omega
    by_cases h1 : nI (vl V) ≤ a
    · rw [if_pos h1, if_neg]
      rw [q_le, e2] at h1
      omega
    · rw [if_neg h1]
      rw [q_le, e2] at h1
      have hlt : a.toInt < vl V := by omega
      obtain ⟨ea, en⟩ := rg_nI (x := a) (hi := 60) ⟨h0', by omega⟩
      have ha : a.toNatClampNeg < vl V := by omega
      have hc : 0 ≤ a.toInt ∧ a.toInt < ↑(vl V) := ⟨h0', hlt⟩
      rw [if_pos hc, if_neg (nI_pos (by omega)), if_pos (show nI k < 4 from nI_lt (b := 4) hk (by omega)), h3]
      generalize hq : a.toNatClampNeg = q at ha ea en ⊢
      subst ea
      have hfm : fJ9_floorMod_7cf53 (nI x0 - 1 - nI q) 60 σ = some (nI ((x0 + 59 - q) % 60)) := by
        have e1 : (1 : Int32).toInt = 1 := rfl
        have e60 : (60 : Int32).toInt = 60 := rfl
        have ex : (nI x0).toInt = x0 := nI_toInt (by omega)
        have eq' : (nI q).toInt = q := nI_toInt (by omega)
        by_cases hle : q + 1 ≤ x0
        · have ez : nI x0 - 1 - nI q = nI (x0 - 1 - q) := by
            rw [q_lit 1, pk_sub (by omega), pk_sub (by omega)]
          rw [ez]
          unfold fJ9_floorMod_7cf53
          rw [if_neg (by decide), if_pos ?_, q_lit 60, pk_rem (by omega) (by omega) (by omega)]
          · refine congrArg some (congrArg nI (by omega))
          · exact (by decide +kernel : ∀ j, j < 60 → 0 ≤ nI j ^^^ (60 : Int32)) _ (by omega)
        · have ez : nI x0 - 1 - nI q = -nI (q + 1 - x0) := by
            rw [q_eq]
            rw [q_sub (by rw [q_sub (by omega) (by omega)]; omega) (by rw [q_sub (by omega) (by omega)]; omega), q_sub (by omega) (by omega), ex, e1, eq', Int32.toInt_neg, nI_toInt (by omega), q_bmod (by omega) (by omega)]
            omega
          rw [ez]
          have := (by decide +kernel : ∀ j, j < 61 → 0 < j → fJ9_floorMod_7cf53 (-nI j) 60 (fun _ _ => 0) = some (nI ((60 - j) % 60))) (q + 1 - x0) (by omega) (by omega)
          have e3 : fJ9_floorMod_7cf53 (-nI (q + 1 - x0)) 60 σ = fJ9_floorMod_7cf53 (-nI (q + 1 - x0)) 60 (fun _ _ => 0) := rfl
          rw [e3, this]
          exact congrArg some (congrArg nI (by omega))
      rw [hfm]
      show (if pn_ib (nI ((x0 + 59 - q) % 60) * 4 + nI k) 240 = true then _ else _) = _
      rw [show nI ((x0 + 59 - q) % 60) * 4 + nI k = nI (4 * ((x0 + 59 - q) % 60) + k) by rw [q_lit 4, pk_mul, nI_add, Nat.mul_comm], q_ib (by omega) (by omega), if_pos rfl, nI_clamp (by omega), h4 q ha k hk]
