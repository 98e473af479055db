/-! PURE: a night passes; the class -/
theorem Fr_v {v : Nat} {σ σ' : pn_S} (h : Fr (fun i => i = v) σ σ') : Fr (fun i => i = v ∨ i = v + 1) σ σ' := h.mono fun i hi => Or.inl hi
theorem Fr_v1 {v : Nat} {σ σ' : pn_S} (h : Fr (fun i => i = v + 1) σ σ') : Fr (fun i => i = v ∨ i = v + 1) σ σ' := h.mono fun i hi => Or.inr hi
def b01 (b : Bool) : Int32 := if b = true then 1 else 0
theorem c_end37 {σ : pn_S} {v t : Nat} {V : pn_V} {c z : Int32} (hv : v + 3 ≤ 37) (h : CV σ v V) (hw : VW V) (ht : t < vn V) (h5 : V 5 = nI t) (hc : σ 37 4 = c) (hs : σ 37 5 = nI (pc c)) (hz : σ 37 6 = z) :
    ∃ σ', fX10_endOfNoise_37 v σ = some ((if z < tr V t 2 ∨ tr V t 3 < V 10 * nI (pc c) then ((3 : Int32)) else 2), σ') ∧ CV σ' v (if z < tr V t 2 ∨ tr V t 3 < V 10 * nI (pc c) then upd V (13 + 8 * t + 2) (mx0 (tr V t 2 - z / 4)) else buyV V t c) ∧ Fr (fun i => i = v ∨ i = v + 1) σ σ' := by
  unfold fX10_endOfNoise_37
  rw [h.1.2.2.1, h5]
  have g2 : fX8_of v (nI t) 2 σ = some (tr V t 2) := c_of h hw ht (k := 2) (by omega)
  have g3 : fX8_of v (nI t) 3 σ = some (tr V t 3) := c_of h hw ht (k := 3) (by omega)
  have e89 : ∃ σ', fX10_endOfNoise_89 v (tr V t 2) σ = some (3, σ') ∧ CV σ' v (upd V (13 + 8 * t + 2) (mx0 (tr V t 2 - z / 4))) ∧ Fr (fun i => i = v ∨ i = v + 1) σ σ' := by
    unfold fX10_endOfNoise_89
    obtain ⟨k1, k2⟩ := c_tell h hw (p := t) (k := 2) ht (by omega) (mx0 (tr V t 2 - z / 4))
    have k1 : fX8_tell v (nI t) 2 (mx0 (tr V t 2 - z / 4)) σ = _ := k1
    rw [hz, jmx, Option.bind_some, h.1.2.2.1, h5, k1, bi_some]
    exact ⟨_, rfl, k2, Fr.rf.up (Or.inr rfl)⟩
  rw [g2, Option.bind_some, hz]
  by_cases q1 : z < tr V t 2
  · rw [if_pos q1, if_pos (Or.inl q1), if_pos (Or.inl q1)]; exact e89
  rw [if_neg q1, g3, Option.bind_some, h.1.2.2.2.2.2.2.2.2.2.1, hs]
  by_cases q2 : tr V t 3 < V 10 * nI (pc c)
  · rw [if_pos q2, if_pos (Or.inr q2), if_pos (Or.inr q2)]; exact e89
  rw [if_neg q2, if_neg (fun q => q.elim q1 q2), if_neg (fun q => q.elim q1 q2)]
  obtain ⟨σ', k1, k2, -, -, k5⟩ := c_buyOff hv h hw ht h5 hc hs q2
  rw [k1, Option.bind_some]
  exact ⟨σ', rfl, k2, k5⟩
theorem c_end {σ : pn_S} {v t : Nat} {V : pn_V} {c z : Int32} {dr : Bool} (hv : v + 3 ≤ 37) (h : CV σ v V) (hw : VW V) (ht : t < vn V) (h5 : V 5 = nI t) (hc : σ 37 4 = c) (hs : σ 37 5 = nI (pc c)) (hz : σ 37 6 = z) :
    ∃ σ', fX10_endOfNoise v (b01 dr) σ = some ((endS V z t c dr).2, σ') ∧ CV σ' v (endS V z t c dr).1 ∧ Fr (fun i => i = v ∨ i = v + 1) σ σ' := by
  have h8 := pc_le c
  unfold fX10_endOfNoise endS
  rw [hs]
  by_cases h0 : pc c = 0
  · rw [if_pos (by rw [h0]; rfl), if_pos h0]
    exact ⟨σ, rfl, h, Fr.rf⟩
  rw [if_neg (nI_ne0 (by omega) (by omega)), if_neg h0]
  cases dr with
  | false =>
    rw [if_pos (show b01 false = 0 from rfl), if_neg (fun q => Bool.false_ne_true q.1)]
    obtain ⟨σ', k1, k2, k3⟩ := c_end37 hv h hw ht h5 hc hs hz
    refine ⟨σ', ?_, ?_, k3⟩
    · rw [k1]
      show _ = some ((if z < tr V t 2 ∨ tr V t 3 < V 10 * nI (pc c) then _ else _ : pn_V × Int32).2, σ')
      by_cases q : z < tr V t 2 ∨ tr V t 3 < V 10 * nI (pc c)
      · rw [if_pos q, if_pos q]
      · rw [if_neg q, if_neg q]
    · show CV σ' v (if z < tr V t 2 ∨ tr V t 3 < V 10 * nI (pc c) then _ else _ : pn_V × Int32).1
      by_cases q : z < tr V t 2 ∨ tr V t 3 < V 10 * nI (pc c)
      · rw [if_pos q] at k2 ⊢; exact k2
      · rw [if_neg q] at k2 ⊢; exact k2
  | true =>
    rw [if_neg (show ¬ b01 true = 0 by decide)]
    obtain ⟨x, σ1, g1, g2, g3, g4⟩ := c_draw h
    have hn : vn (dV V) = vn V := vn_up (by omega)
    rw [g1, bi_some, g2, g3.1.2.2.2.2.2.2.2.1, show dV V 8 = V 8 from pk_un (by omega)]
    have f37 : σ1 37 = σ 37 := g4 37 (by omega)
    by_cases q : V 8 ≤ dN V
    · rw [if_pos q, if_neg (fun z => z.2 q)]
      obtain ⟨σ', k1, k2, k3⟩ := c_end37 hv g3 (dV_W hw) (t := t) (by omega) (by rw [show dV V 5 = V 5 from pk_un (by omega)]; exact h5) (c := c) (z := z) (by rw [f37]; exact hc) (by rw [f37]; exact hs) (by rw [f37]; exact hz)
      refine ⟨σ', ?_, ?_, (Fr_v g4).tr k3⟩
      · rw [k1]
        show _ = some ((if z < tr (dV V) t 2 ∨ tr (dV V) t 3 < dV V 10 * nI (pc c) then _ else _ : pn_V × Int32).2, σ')
        by_cases q : z < tr (dV V) t 2 ∨ tr (dV V) t 3 < dV V 10 * nI (pc c)
        · rw [if_pos q, if_pos q]
        · rw [if_neg q, if_neg q]
      · show CV σ' v (if z < tr (dV V) t 2 ∨ tr (dV V) t 3 < dV V 10 * nI (pc c) then _ else _ : pn_V × Int32).1
        by_cases q : z < tr (dV V) t 2 ∨ tr (dV V) t 3 < dV V 10 * nI (pc c)
        · rw [if_pos q] at k2 ⊢; exact k2
        · rw [if_neg q] at k2 ⊢; exact k2
    · rw [if_neg q, if_pos ⟨rfl, q⟩]
      obtain ⟨σ', k1, k2, -, -, k5⟩ := c_fine_loop (c := c) hv (vn V) 0 5000 σ1 (dV V) (by omega) (by have := hw.n.2; omega) g3 (dV_W hw) hn (by rw [f37]; exact hc)
      have k1 : fX10_fineAll v σ1 = some σ' := k1
      rw [k1, Option.bind_some]
      exact ⟨σ', rfl, k2, (Fr_v g4).tr (Fr_v1 k5)⟩
theorem c_bear {σ : pn_S} {v t : Nat} {V : pn_V} (h : CV σ v V) (hw : VW V) (ht : t < vn V) (h5 : V 5 = -1 ∨ V 5 = nI t) : ∃ σ', fX8_bear v σ = some σ' ∧ CV σ' v (bearS V t) ∧ VW (bearS V t) ∧ vn (bearS V t) = vn V ∧ Fr (fun i => i = v ∨ i = v + 1) σ σ' := by
  unfold fX8_bear bearS
  rw [h.1.2.2.1]
  by_cases q : V 5 = -1
  · rw [if_pos q, if_pos q]; exact ⟨σ, rfl, h, hw, rfl, Fr.rf⟩
  rw [if_neg q, if_neg q, pn_up_s, h.1.2.2.2.1]
  have h5 : V 5 = nI t := h5.resolve_left q
  have hc : CV (pn_up σ v 5 (V 6 + 1)) v (upd V 6 (V 6 + 1)) := cv_fld h 5 6 _ (by omega)
  have r := hw.2.2.2.2.2.1
  have r1 := r.1
  have r2 := r.2
  have e1 : (1 : Int32).toInt = 1 := rfl
  have ea : (V 6 + 1).toInt = (V 6).toInt + 1 := by rw [q_add (by omega) (by omega)]; rfl
  by_cases q3 : V 6 + 1 < 3
  · rw [if_pos q3, if_pos q3]
    rw [q_lt, ea] at q3
    have e3 : (3 : Int32).toInt = 3 := rfl
    exact ⟨_, rfl, hc, vw_f hw (by omega) (by omega) (Or.inr (Or.inr ⟨by rw [ea]; show (0 : Int) ≤ _; omega, by rw [ea]; show _ ≤ (2 : Int); omega⟩)), vn_up (by omega), Fr.rf.up (Or.inl rfl)⟩
  · rw [if_neg q3, if_neg q3]
    -- for the ranges the third night counts as the second
    have hw2 : VW (upd V 6 2) := vw_f hw (by omega) (by omega) (Or.inr (Or.inr ⟨by show (0 : Int) ≤ 2; omega, by show (2 : Int) ≤ 2; omega⟩))
    have ef : forgV (upd V 6 (V 6 + 1)) t = forgV (upd V 6 2) t := by
      funext k
      unfold forgV
      by_cases k6 : k = 6
      · subst k6; rw [pk_us, pk_us]
      · rw [pk_un k6, pk_un k6]
        by_cases k5 : k = 5
        · subst k5; rw [pk_us, pk_us]
        · rw [pk_un k5, pk_un k5]
          by_cases k4 : k = 13 + 8 * t + 4
          · subst k4; rw [pk_us, pk_us]
          · rw [pk_un k4, pk_un k4, pk_un k6, pk_un k6]
    have fw := forgV_W (t := t) hw2
    have hn6 : vn (upd V 6 (V 6 + 1)) = vn V := vn_up (by omega)
    have hn : vn V ≤ 8 := hw.n.2
    have hl := hw.l.2
    -- forgive, by its own steps
    have e2 : (pn_up σ v 5 (V 6 + 1)) v 2 = nI (vn V) := by rw [hc.1.1, pk_un (by omega), hw.n.1]
    have e4 : (pn_up σ v 5 (V 6 + 1)) v 4 = nI t := by rw [hc.1.2.2.1, pk_un (by omega)]; exact h5
    have k1 : fX8_tell v (nI t) 4 0 (pn_up σ v 5 (V 6 + 1)) = some (tr (upd V 6 (V 6 + 1)) t 4, pn_up (pn_up σ v 5 (V 6 + 1)) (v + 1) (8 * t + 4) 0) := by
      unfold fX8_tell
      rw [e2, if_neg (nI_pos (by omega)), if_neg (nI_ge ht (by omega)), if_neg (by decide), if_pos (by decide), show nI t * 8 + 4 = nI (8 * t + 4) from cv_idx (k := 4) (by omega) (by omega), q_ib (by omega) (by omega), if_pos rfl, if_pos rfl, nI_clamp (by omega), hc.2.1 _ (by omega)]
      unfold tr
      rw [Nat.add_assoc]
    have k2 := cv_up hc (p := t) (k := 4) (by omega) (by omega) (by omega) (by rw [vl_up (by omega)]; exact hl) 0
    obtain ⟨m1, m2⟩ := c_aim k2 (-1)
    refine ⟨pn_up (pn_up (pn_up (pn_up σ v 5 (V 6 + 1)) (v + 1) (8 * t + 4) 0) v 4 (-1)) v 5 0, ?_, m2, by rw [ef]; exact fw.1, by rw [ef]; exact fw.2.trans (vn_up (by omega)), (((Fr.rf.up (Or.inl rfl)).up (Or.inr rfl)).up (Or.inl rfl)).up (Or.inl rfl)⟩
    unfold fX8_forgive
    rw [e4, k1, bi_some, m1, Option.bind_some, Option.bind_some]
