/-! PURE: the ends of a night; the class -/
def fineS (c : Int32) : Nat → pn_V → pn_V := fun p U => if bt c p = true then upd U (13 + 8 * p + 3) (mx0 (tr U p 3 - U 9)) else U
def thirS (c : Int32) : Nat → pn_V → pn_V := fun p U => if bt c p = true then upd U (13 + 8 * p + 1) (mx0 (tr U p 1 - 1)) else U
def forgV (V : pn_V) (t : Nat) : pn_V := upd (upd (upd V (13 + 8 * t + 4) 0) 5 (-1)) 6 0
def buyV (V : pn_V) (t : Nat) (c : Int32) : pn_V := forgV (fo (thirS c) 0 (vn V) (upd V (13 + 8 * t + 3) (tr V t 3 - V 10 * nI (pc c)))) t
theorem bi_some {α : Type} (x : Int32) (σ : pn_S) (k : Int32 → pn_S → Option α) : pn_bi (some (x, σ)) k = k x σ := rfl
theorem jmx (x : Int32) (σ : pn_S) : fJ9_max_7cf53 0 x σ = some (mx0 x) := jmax 0 x σ
theorem fineS_W {c : Int32} {p : Nat} {U : pn_V} (h : VW U) (hp : p < vn U) : VW (fineS c p U) ∧ vn (fineS c p U) = vn U := by
  unfold fineS
  by_cases hb : bt c p = true
  · rw [if_pos hb]
    have r := h.t hp (k := 3) (by omega)
    have r9 := h.2.2.2.2.2.2.2.2.1
    have a1 : (0 : Int) ≤ (tr U p 3).toInt := r.1
    have a2 : (tr U p 3).toInt ≤ 9999 := r.2
    have b1 := r9.1
    have b2 := r9.2
    refine ⟨vw_tr h (by omega) ?_, vn_up (by omega)⟩
    exact mx0_rg (by show (0 : Int) ≤ 9999; omega) (by rw [q_sub (by omega) (by omega)]; show _ ≤ (9999 : Int); omega)
  · rw [if_neg hb]; exact ⟨h, rfl⟩
theorem thirS_W {c : Int32} {p : Nat} {U : pn_V} (h : VW U) (hp : p < vn U) : VW (thirS c p U) ∧ vn (thirS c p U) = vn U := by
  unfold thirS
  by_cases hb : bt c p = true
  · rw [if_pos hb]
    have r := h.t hp (k := 1) (by omega)
    have a1 : (0 : Int) ≤ (tr U p 1).toInt := r.1
    have a2 : (tr U p 1).toInt ≤ 9 := r.2
    have e1 : (1 : Int32).toInt = 1 := rfl
    refine ⟨vw_tr h (by omega) ?_, vn_up (by omega)⟩
    exact mx0_rg (by show (0 : Int) ≤ 9; omega) (by rw [q_sub (by omega) (by omega)]; show _ ≤ (9 : Int); omega)
  · rw [if_neg hb]; exact ⟨h, rfl⟩
theorem c_fine_loop {v n : Nat} {c : Int32} (hv : v + 3 ≤ 37) : ∀ (k p f : Nat) (σ : pn_S) (U : pn_V), p + k = n → k < f → CV σ v U → VW U → vn U = n → σ 37 4 = c → ∃ σ', fX10_fineAll_2 v f (nI p) σ = some σ' ∧ CV σ' v (fo (fineS c) p k U) ∧ VW (fo (fineS c) p k U) ∧ vn (fo (fineS c) p k U) = n ∧ Fr (fun i => i = v + 1) σ σ' := by
  intro k
  induction k with
  | zero =>
    intro p f σ U hp hf h hw hn hc
    have e : σ v 2 = nI n := by rw [h.1.1, hw.n.1, hn]
    have h8 := hw.n.2
    match f, hf with
    | f + 1, _ => exact ⟨σ, by rw [fX10_fineAll_2, e, if_pos (nI_le (by omega) (by omega))], h, hw, hn, Fr.rf⟩
  | succ k ih =>
    intro p f σ U hp hf h hw hn hc
    have e : σ v 2 = nI n := by rw [h.1.1, hw.n.1, hn]
    have h8 := hw.n.2
    match f, hf with
    | f + 1, hf =>
      have hs := fineS_W (c := c) hw (p := p) (by omega)
      rw [fX10_fineAll_2, e, if_neg (nI_ge (by omega) (by omega)), hc, c_hasBit (by omega), Option.bind_some, fo]
      by_cases hb : bt c p = true
      · have eS : fineS c p U = upd U (13 + 8 * p + 3) (mx0 (tr U p 3 - U 9)) := by unfold fineS; rw [if_pos hb]
        rw [eS] at hs ⊢
        rw [if_pos hb, if_neg (by decide), q_lit 3, c_of h hw (by omega) (by omega), Option.bind_some, h.1.2.2.2.2.2.2.2.2.1, jmx, Option.bind_some]
        obtain ⟨g1, g2⟩ := c_tell h hw (p := p) (k := 3) (by omega) (by omega) (mx0 (tr U p 3 - U 9))
        rw [g1, bi_some, nI_1]
        have f1 : Fr (fun i => i = v + 1) σ (pn_up σ (v + 1) (8 * p + 3) (mx0 (tr U p 3 - U 9))) := Fr.rf.up rfl
        obtain ⟨σ', k1, k2, k3, k4, k5⟩ := ih (p + 1) f _ _ (by omega) (by omega) g2 hs.1 (hs.2.trans hn) (by rw [pn_up_a _ _ _ _ (by omega)]; exact hc)
        exact ⟨σ', k1, k2, k3, k4, f1.tr k5⟩
      · have eS : fineS c p U = U := by unfold fineS; rw [if_neg hb]
        rw [eS, if_neg hb, if_pos rfl, nI_1]
        exact ih (p + 1) f σ U (by omega) (by omega) h hw hn hc
theorem c_forgive {σ : pn_S} {v t : Nat} {V : pn_V} (h : CV σ v V) (hw : VW V) (ht : t < vn V) (h5 : V 5 = nI t) : ∃ σ', fX8_forgive v σ = some σ' ∧ CV σ' v (forgV V t) ∧ Fr (fun i => i = v ∨ i = v + 1) σ σ' := by
  unfold fX8_forgive
  rw [h.1.2.2.1, h5]
  obtain ⟨g1, g2⟩ := c_tell h hw (p := t) (k := 4) ht (by omega) 0
  rw [show (4 : Int32) = nI 4 from rfl, g1]
  obtain ⟨k1, k2⟩ := c_aim g2 (-1)
  refine ⟨_, ?_, k2, ((Fr.rf.up (Or.inr rfl)).up (Or.inl rfl)).up (Or.inl rfl)⟩
  show (fX8_aim v (-1) _).bind _ = _
  rw [k1, Option.bind_some]
theorem forgV_W {V : pn_V} {t : Nat} (hw : VW V) : VW (forgV V t) ∧ vn (forgV V t) = vn V := by
  have h1 : VW (upd V (13 + 8 * t + 4) 0) := vw_tr hw (by omega) ⟨by decide, by show (0 : Int) ≤ 9; omega⟩
  have n1 : vn (upd V (13 + 8 * t + 4) 0) = vn V := vn_up (by omega)
  have h2 : VW (upd (upd V (13 + 8 * t + 4) 0) 5 (-1)) := vw_f h1 (by omega) (by omega) (Or.inr (Or.inr ⟨by decide, by
    show (-1 : Int) ≤ (vn (upd V (13 + 8 * t + 4) 0) : Int) - 1; omega⟩))
  refine ⟨vw_f h2 (by omega) (by omega) (Or.inr (Or.inr ⟨by decide, by show (0 : Int) ≤ 2; omega⟩)), ?_⟩
  unfold forgV
  rw [vn_up (by omega), vn_up (by omega), n1]
theorem c_thir_loop {v n t : Nat} {c : Int32} (hv : v + 3 ≤ 37) (ht : t < n) : ∀ (k p f : Nat) (σ : pn_S) (U : pn_V), p + k = n → k < f → CV σ v U → VW U → vn U = n → U 5 = nI t → σ 37 4 = c → ∃ σ', fX10_buyOff_34 v f (nI p) σ = some σ' ∧ CV σ' v (forgV (fo (thirS c) p k U) t) ∧ VW (fo (thirS c) p k U) ∧ vn (fo (thirS c) p k U) = n ∧ Fr (fun i => i = v ∨ i = v + 1) σ σ' := by
  intro k
  induction k with
  | zero =>
    intro p f σ U hp hf h hw hn h5 hc
    have e : σ v 2 = nI n := by rw [h.1.1, hw.n.1, hn]
    have h8 := hw.n.2
    match f, hf with
    | f + 1, _ =>
      obtain ⟨σ', g1, g2, g3⟩ := c_forgive h hw (by omega) h5
      exact ⟨σ', by rw [fX10_buyOff_34, e, if_pos (nI_le (by omega) (by omega)), g1, Option.bind_some], g2, hw, hn, g3⟩
  | succ k ih =>
    intro p f σ U hp hf h hw hn h5 hc
    have e : σ v 2 = nI n := by rw [h.1.1, hw.n.1, hn]
    have h8 := hw.n.2
    match f, hf with
    | f + 1, hf =>
      have hs := thirS_W (c := c) hw (p := p) (by omega)
      rw [fX10_buyOff_34, e, if_neg (nI_ge (by omega) (by omega)), hc, c_hasBit (by omega), Option.bind_some, fo]
      by_cases hb : bt c p = true
      · have eS : thirS c p U = upd U (13 + 8 * p + 1) (mx0 (tr U p 1 - 1)) := by unfold thirS; rw [if_pos hb]
        rw [eS] at hs ⊢
        have g0 := c_of h hw (p := p) (k := 1) (by omega) (by omega)
        obtain ⟨g1, g2⟩ := c_tell h hw (p := p) (k := 1) (by omega) (by omega) (mx0 (tr U p 1 - 1))
        rw [if_pos hb, if_neg (by decide)]
        have g0 : fX8_of v (nI p) 1 σ = some (tr U p 1) := g0
        have g1 : fX8_tell v (nI p) 1 (mx0 (tr U p 1 - 1)) σ = _ := g1
        rw [g0, Option.bind_some, jmx, Option.bind_some, g1, bi_some, nI_1]
        obtain ⟨σ', k1, k2, k3, k4, k5⟩ := ih (p + 1) f _ _ (by omega) (by omega) g2 hs.1 (hs.2.trans hn) (by rw [pk_un (by omega)]; exact h5) (by rw [pn_up_a _ _ _ _ (by omega)]; exact hc)
        exact ⟨σ', k1, k2, k3, k4, (Fr.rf.up (Or.inr rfl)).tr k5⟩
      · have eS : thirS c p U = U := by unfold thirS; rw [if_neg hb]
        rw [eS, if_neg hb, if_pos rfl, nI_1]
        exact ih (p + 1) f σ U (by omega) (by omega) h hw hn h5 hc
/-- the price is a small number -/
theorem price_rg {V : pn_V} (hw : VW V) (c : Int32) : (V 10 * nI (pc c)).toInt = (V 10).toInt * pc c ∧ 0 ≤ (V 10 * nI (pc c)).toInt ∧ (V 10 * nI (pc c)).toInt ≤ 160 := by
  have r := hw.2.2.2.2.2.2.2.2.2.1
  have r1 := r.1
  have r2 := r.2
  have hp := pc_le c
  have ep : (nI (pc c)).toInt = pc c := nI_toInt (by omega)
  have m1 : (0 : Int) ≤ (V 10).toInt * pc c := Int.mul_nonneg r1 (by omega)
  have m2 : (V 10).toInt * (pc c : Int) ≤ 20 * 8 := Int.mul_le_mul r2 (by omega) (by omega) (by omega)
  have e : (V 10 * nI (pc c)).toInt = (V 10).toInt * pc c := by
    rw [q_mul (by rw [ep]; omega) (by rw [ep]; omega), ep]
  rw [e]
  exact ⟨rfl, m1, by omega⟩
theorem c_buyOff {σ : pn_S} {v t : Nat} {V : pn_V} {c : Int32} (hv : v + 3 ≤ 37) (h : CV σ v V) (hw : VW V) (ht : t < vn V) (h5 : V 5 = nI t) (hc : σ 37 4 = c) (hs : σ 37 5 = nI (pc c)) (hpay : ¬ tr V t 3 < V 10 * nI (pc c)) : ∃ σ', fX10_buyOff v σ = some σ' ∧ CV σ' v (buyV V t c) ∧ VW (buyV V t c) ∧ vn (buyV V t c) = vn V ∧ Fr (fun i => i = v ∨ i = v + 1) σ σ' := by
  have h8 := hw.n.2
  unfold fX10_buyOff
  rw [h.1.2.2.1, h5, h.1.2.2.2.2.2.2.2.2.2.1, hs]
  have g0 : fX8_of v (nI t) 3 σ = some (tr V t 3) := c_of h hw ht (k := 3) (by omega)
  obtain ⟨g1, g2⟩ := c_tell h hw (p := t) (k := 3) ht (by omega) (tr V t 3 - V 10 * nI (pc c))
  have g1 : fX8_tell v (nI t) 3 (tr V t 3 - V 10 * nI (pc c)) σ = _ := g1
  rw [g0, Option.bind_some, g1, bi_some]
  have pr := price_rg hw c
  have r := hw.t ht (k := 3) (by omega)
  have r1 : (0 : Int) ≤ (tr V t 3).toInt := r.1
  have r2 : (tr V t 3).toInt ≤ 9999 := r.2
  rw [q_lt] at hpay
  have hw2 : VW (upd V (13 + 8 * t + 3) (tr V t 3 - V 10 * nI (pc c))) := vw_tr hw (by omega) ⟨by rw [q_sub (by omega) (by omega)]; show (0 : Int) ≤ _; omega, by rw [q_sub (by omega) (by omega)]; show _ ≤ (9999 : Int); omega⟩
  obtain ⟨σ', k1, k2, k3, k4, k5⟩ := c_thir_loop (c := c) hv ht (vn V) 0 5000 _ _ (by omega) (by omega) g2 hw2 (vn_up (by omega)) (by rw [pk_un (by omega)]; exact h5) (by rw [pn_up_a _ _ _ _ (by omega)]; exact hc)
  have fw := forgV_W (t := t) k3
  exact ⟨σ', k1, k2, fw.1, fw.2.trans k4, (Fr.rf.up (Or.inr rfl)).tr k5⟩
