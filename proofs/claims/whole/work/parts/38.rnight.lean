/-! PURE: the ends of a night; the reference -/
theorem r_min {a b : Int32} (ha : rg a 0 9999) (hb : rg b 0 9999) : a - (if b < a then b else a) = mx0 (a - b) := by
  have a1 := ha.1
  have a2 := ha.2
  have b1 := hb.1
  have b2 := hb.2
  have e : (a - b).toInt = a.toInt - b.toInt := q_sub (by omega) (by omega)
  have z : (0 : Int32).toInt = 0 := rfl
  unfold mx0
  by_cases q : b < a
  · rw [if_pos q, if_pos]
    rw [q_lt] at q ⊢
    omega
  · rw [if_neg q, if_neg]
    · rw [q_eq, q_sub (by omega) (by omega), z]; omega
    · rw [q_lt] at q ⊢
      omega
theorem r_at' {p k : Nat} {σ : pn_S} : fX11_at (nI p) (nI k) σ = some (nI (13 + 8 * p + k)) := by
  unfold fX11_at
  rw [r_at]
def S86 (i : Nat) : Prop := i = 86
theorem F86 {σ s : pn_S} {k : Nat} {x : Int32} (h : Fr S86 σ s) : Fr S86 σ (pn_up s 86 k x) := h.up rfl
theorem r_fine_loop {n : Nat} {c : Int32} : ∀ (k p f : Nat) (σ : pn_S) (U : pn_V), p + k = n → k < f → σ 86 = U → VW U → vn U = n → ∃ σ', fX11_fines_2 f c (nI p) σ = some σ' ∧ σ' 86 = fo (fineS c) p k U ∧ Fr S86 σ σ' := by
  intro k
  induction k with
  | zero =>
    intro p f σ U hp hf h hw hn
    subst h
    have h8 := hw.n.2
    match f, hf with
    | f + 1, _ => exact ⟨σ, by rw [fX11_fines_2, r_people hw, Option.bind_some, if_pos (nI_le (by omega) (by omega))], rfl, Fr.rf⟩
  | succ k ih =>
    intro p f σ U hp hf h hw hn
    subst h
    have h8 := hw.n.2
    match f, hf with
    | f + 1, hf =>
      have hs := fineS_W (c := c) hw (p := p) (by omega)
      rw [fX11_fines_2, r_people hw, Option.bind_some, if_neg (nI_ge (by omega) (by omega)), r_has (by omega), Option.bind_some, fo]
      by_cases hb : bt c p = true
      · have g0 : fX11_of (nI p) 3 σ = some (tr (σ 86) p 3) := r_of hw (k := 3) (by omega) (by omega)
        have g1 : fX11_at (nI p) 3 σ = some (nI (13 + 8 * p + 3)) := r_at' (k := 3)
        have eS : fineS c p (σ 86) = upd (σ 86) (13 + 8 * p + 3) (tr (σ 86) p 3 - (if σ 86 9 < tr (σ 86) p 3 then σ 86 9 else tr (σ 86) p 3)) := by
          unfold fineS
          rw [if_pos hb, r_min (hw.t (k := 3) (by omega) (by omega)) ⟨hw.2.2.2.2.2.2.2.2.1.1, by have := hw.2.2.2.2.2.2.2.2.1.2; omega⟩]
        rw [if_pos hb, if_neg (by decide), g1, Option.bind_some, q_ib (by omega) (by omega), if_pos rfl, g0, Option.bind_some, jmin, Option.bind_some, if_pos rfl, nI_clamp (by omega), nI_1]
        obtain ⟨σ', k1, k2, k3⟩ := ih (p + 1) f (pn_up σ 86 (13 + 8 * p + 3) (tr (σ 86) p 3 - (if σ 86 9 < tr (σ 86) p 3 then σ 86 9 else tr (σ 86) p 3))) (fineS c p (σ 86)) (by omega) (by omega) (by rw [pn_up_row, eS]) hs.1 (hs.2.trans hn)
        exact ⟨σ', k1, k2, (F86 Fr.rf).tr k3⟩
      · have eS : fineS c p (σ 86) = σ 86 := by unfold fineS; rw [if_neg hb]
        rw [eS, if_neg hb, if_pos rfl, nI_1]
        exact ih (p + 1) f σ (σ 86) (by omega) (by omega) rfl hw hn
theorem r_fines {σ : pn_S} {c : Int32} (hw : VW (σ 86)) : ∃ σ', fX11_fines c σ = some σ' ∧ σ' 86 = fo (fineS c) 0 (vn (σ 86)) (σ 86) ∧ Fr S86 σ σ' := by
  have h8 := hw.n.2
  exact r_fine_loop (vn (σ 86)) 0 5000 σ (σ 86) (by omega) (by omega) rfl hw rfl
theorem r_thir_loop {n : Nat} {c : Int32} : ∀ (k p f : Nat) (σ : pn_S) (U : pn_V), p + k = n → k < f → σ 86 = U → VW U → vn U = n → ∃ σ', fX11_buysOff_45 f c (nI p) σ = some σ' ∧ σ' 86 = upd (upd (fo (thirS c) p k U) 5 (-1)) 6 0 ∧ Fr S86 σ σ' := by
  intro k
  induction k with
  | zero =>
    intro p f σ U hp hf h hw hn
    subst h
    have h8 := hw.n.2
    match f, hf with
    | f + 1, _ =>
      refine ⟨pn_up (pn_up σ 86 5 (-1)) 86 6 0, ?_, by rw [pn_up_row, pn_up_row]; rfl, F86 (F86 Fr.rf)⟩
      rw [fX11_buysOff_45, r_people hw, Option.bind_some, if_pos (nI_le (by omega) (by omega))]
      rfl
  | succ k ih =>
    intro p f σ U hp hf h hw hn
    subst h
    have h8 := hw.n.2
    match f, hf with
    | f + 1, hf =>
      have hs := thirS_W (c := c) hw (p := p) (by omega)
      rw [fX11_buysOff_45, r_people hw, Option.bind_some, if_neg (nI_ge (by omega) (by omega)), r_has (by omega), Option.bind_some, fo]
      by_cases hb : bt c p = true
      · have g0 : fX11_of (nI p) 1 σ = some (tr (σ 86) p 1) := r_of hw (k := 1) (by omega) (by omega)
        have g1 : fX11_at (nI p) 1 σ = some (nI (13 + 8 * p + 1)) := r_at' (k := 1)
        have eS : thirS c p (σ 86) = upd (σ 86) (13 + 8 * p + 1) (mx0 (tr (σ 86) p 1 - 1)) := by unfold thirS; rw [if_pos hb]
        rw [if_pos hb, if_neg (by decide), g1, Option.bind_some, g0, Option.bind_some, jmx, Option.bind_some, q_ib (by omega) (by omega), if_pos rfl, nI_clamp (by omega), nI_1]
        obtain ⟨σ', k1, k2, k3⟩ := ih (p + 1) f (pn_up σ 86 (13 + 8 * p + 1) (mx0 (tr (σ 86) p 1 - 1))) (thirS c p (σ 86)) (by omega) (by omega) (by rw [pn_up_row, eS]) hs.1 (hs.2.trans hn)
        exact ⟨σ', k1, k2, (F86 Fr.rf).tr k3⟩
      · have eS : thirS c p (σ 86) = σ 86 := by unfold thirS; rw [if_neg hb]
        rw [eS, if_neg hb, if_pos rfl, nI_1]
        exact ih (p + 1) f σ (σ 86) (by omega) (by omega) rfl hw hn
theorem thir_comm {c : Int32} {t : Nat} {x : Int32} : ∀ (k p : Nat) (U : pn_V), fo (thirS c) p k (upd U (13 + 8 * t + 4) x) = upd (fo (thirS c) p k U) (13 + 8 * t + 4) x := by
  intro k
  induction k with
  | zero => intro p U; rfl
  | succ k ih =>
    intro p U
    have e : thirS c p (upd U (13 + 8 * t + 4) x) = upd (thirS c p U) (13 + 8 * t + 4) x := by
      unfold thirS
      by_cases hb : bt c p = true
      · rw [if_pos hb, if_pos hb, tr_up (by omega) (by omega), if_neg (by omega)]
        funext j
        by_cases j1 : j = 13 + 8 * p + 1
        · subst j1; rw [pk_us, pk_un (by omega), pk_us]
        · rw [pk_un j1]
          by_cases j2 : j = 13 + 8 * t + 4
          · subst j2; rw [pk_us, pk_us]
          · rw [pk_un j2, pk_un j2, pk_un j1]
      · rw [if_neg hb, if_neg hb]
    rw [fo, e, ih, fo]
theorem r_price {σ : pn_S} {c a : Int32} (hc : s8 c) : fX11_priceBy c a σ = some (a * nI (pc c)) := by
  unfold fX11_priceBy
  rw [j_bc hc]
  rfl
theorem r_buysOff {σ : pn_S} {t : Nat} {c : Int32} (hw : VW (σ 86)) (ht : t < vn (σ 86)) (h5 : σ 86 5 = nI t) (hc : s8 c) (hpay : ¬ tr (σ 86) t 3 < σ 86 10 * nI (pc c)) : ∃ σ', fX11_buysOff c σ = some σ' ∧ σ' 86 = buyV (σ 86) t c ∧ Fr S86 σ σ' := by
  have h8 := hw.n.2
  have pr := price_rg hw c
  have r := hw.t ht (k := 3) (by omega)
  have r1 : (0 : Int) ≤ (tr (σ 86) t 3).toInt := r.1
  have r2 : (tr (σ 86) t 3).toInt ≤ 9999 := r.2
  rw [q_lt] at hpay
  have g3 : fX11_at (nI t) 3 σ = some (nI (13 + 8 * t + 3)) := r_at' (k := 3)
  unfold fX11_buysOff
  rw [h5, g3, Option.bind_some, q_ib (by omega) (by omega), if_pos rfl, r_price hc, Option.bind_some, if_pos rfl, nI_clamp (by omega)]
  have g4 : ∀ s : pn_S, fX11_at (nI t) 4 s = some (nI (13 + 8 * t + 4)) := fun s => r_at' (k := 4)
  rw [g4, Option.bind_some, q_ib (by omega) (by omega), if_pos rfl, nI_clamp (by omega)]
  have hw2 : VW (upd (σ 86) (13 + 8 * t + 3) (tr (σ 86) t 3 - σ 86 10 * nI (pc c))) := vw_tr hw (by omega) ⟨by rw [q_sub (by omega) (by omega)]; show (0 : Int) ≤ _; omega, by rw [q_sub (by omega) (by omega)]; show _ ≤ (9999 : Int); omega⟩
  have hw3 : VW (upd (upd (σ 86) (13 + 8 * t + 3) (tr (σ 86) t 3 - σ 86 10 * nI (pc c))) (13 + 8 * t + 4) 0) := vw_tr hw2 (by omega) ⟨by decide, by show (0 : Int) ≤ 9; omega⟩
  obtain ⟨σ', k1, k2, k3⟩ := r_thir_loop (c := c) (vn (σ 86)) 0 5000 (pn_up (pn_up σ 86 (13 + 8 * t + 3) (tr (σ 86) t 3 - σ 86 10 * nI (pc c))) 86 (13 + 8 * t + 4) 0) _ (by omega) (by omega) (by rw [pn_up_row, pn_up_row]) hw3 ((vn_up (by omega)).trans (vn_up (by omega)))
  refine ⟨σ', k1, ?_, (F86 (F86 Fr.rf)).tr k3⟩
  rw [k2, thir_comm]
  rfl
