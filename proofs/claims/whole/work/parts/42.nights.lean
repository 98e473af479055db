/-! PURE: nights, one after another -/
def Kp (U V : pn_V) : Prop := ∀ k, k = 2 ∨ 317 ≤ k → U k = V k
theorem Kp.rf {V : pn_V} : Kp V V := fun _ _ => rfl
theorem Kp.tr {A B C : pn_V} (h : Kp A B) (h2 : Kp B C) : Kp A C := fun k hk => (h k hk).trans (h2 k hk)
theorem Kp_up {V : pn_V} {i : Nat} {x : Int32} (h : i ≠ 2 ∧ i < 317) : Kp (upd V i x) V := fun k hk => pk_un (by omega)
theorem Kp_fo {f : Nat → pn_V → pn_V} : ∀ (k p : Nat) (U : pn_V), (∀ q, q < p + k → ∀ W, Kp (f q W) W) → Kp (fo f p k U) U := by
  intro k
  induction k with
  | zero => intro p U _; exact Kp.rf
  | succ k ih => intro p U h; exact (ih (p + 1) (f p U) fun q hq W => h q (by omega) W).tr (h p (by omega) U)
theorem Kp_fine {c : Int32} {q : Nat} (hq : q < 8) (W : pn_V) : Kp (fineS c q W) W := by
  unfold fineS; split
  · exact Kp_up (by omega)
  · exact Kp.rf
theorem Kp_thir {c : Int32} {q : Nat} (hq : q < 8) (W : pn_V) : Kp (thirS c q W) W := by
  unfold thirS; split
  · exact Kp_up (by omega)
  · exact Kp.rf
theorem Kp_forg {V : pn_V} {t : Nat} (ht : t < 8) : Kp (forgV V t) V := ((Kp_up (by omega)).tr (Kp_up (by omega))).tr (Kp_up (by omega))
theorem Kp_dif {dr : Bool} {V : pn_V} : Kp (dif dr V) V := fun k hk => dif_at (by omega)
theorem Kp_buy {V : pn_V} {t : Nat} {c : Int32} (hn : vn V ≤ 8) (ht : t < 8) : Kp (buyV V t c) V := ((Kp_forg ht).tr (Kp_fo _ _ _ fun q hq W => Kp_thir (by omega) W)).tr (Kp_up (by omega))
theorem Kp_end {V : pn_V} {z : Int32} {t : Nat} {c : Int32} {dr : Bool} (hw : VW V) (ht : t < 8) : Kp (endS V z t c dr).1 V := by
  have hn := hw.n.2
  have d := dif_W (dr := dr) hw
  unfold endS
  split
  · exact Kp.rf
  · split
    · exact (Kp_fo _ _ _ fun q hq W => Kp_fine (by omega) W).tr (Kp_up (by omega))
    · split
      · exact (Kp_up (by omega)).tr Kp_dif
      · exact (Kp_buy (by omega) ht).tr Kp_dif
theorem Kp_vsh {V : pn_V} {r : Nat → Int32} : Kp (vsh V r) V := fun k hk => by
  rcases hk with rfl | hk
  · exact vsh_lo (by omega) (by omega)
  · unfold vsh; rw [if_neg (by omega), if_neg (by omega)]
theorem Kp_bear {V : pn_V} {t : Nat} (ht : t < 8) : Kp (bearS V t) V := by
  unfold bearS
  split
  · exact Kp.rf
  · split
    · exact Kp_up (by omega)
    · exact (Kp_forg ht).tr (Kp_up (by omega))
theorem Kp_night {V : pn_V} {Λ : pn_La} {dr : Bool} (hw : VW V) : Kp (nightS V Λ dr).1 V := by
  have ww := wet_W (dr := dr) hw
  have hn := hw.n.2
  have kw : Kp (wetS V dr) V := fun k hk => wet_at (by omega) (by omega)
  unfold nightS
  by_cases q : wetS V dr 5 = -1
  · rw [if_pos q]; exact (Kp_up (by omega)).tr kw
  · rw [if_neg q]
    have ht := (vw_ne ww.1 q).1
    exact ((((Kp_up (by omega)).tr (Kp_bear (by omega))).tr Kp_vsh).tr (Kp_end ww.1 (by omega))).tr kw
def nts (Λ : pn_La) (dr : Bool) : Nat → pn_V → Int32 → pn_V × Int32
  | 0, V, a => (V, a)
  | k + 1, V, a => nts Λ dr k (nightS V Λ dr).1 (a + (nightS V Λ dr).2)
theorem r_goes_loop {h0 : Bool} {Λ : pn_La} {dr : Bool} (hL : LW Λ) (hV : ∀ V, VW V → VW (nightS V Λ dr).1) : ∀ (k i n f : Nat) (σ : pn_S) (acc : Int32), i + k = n → n < 100 → k < f → VW (σ 86) → RLa (σ 86) h0 Λ → ∃ σ', fX11_goesOn_5 f (nI n) (b01 (!dr)) acc (nI i) σ = some ((nts Λ dr k (σ 86) acc).2, σ') ∧ σ' 86 = (nts Λ dr k (σ 86) acc).1 ∧ VW (σ' 86) ∧ Kp (σ' 86) (σ 86) ∧ FrRN σ σ' := by
  intro k
  induction k with
  | zero =>
    intro i n f σ acc hi hn hf hw hR
    match f, hf with
    | f + 1, _ => exact ⟨σ, by rw [fX11_goesOn_5, if_pos (nI_le (by omega) (by omega))]; rfl, rfl, hw, Kp.rf, FrRN.rf⟩
  | succ k ih =>
    intro i n f σ acc hi hn hf hw hR
    match f, hf with
    | f + 1, hf =>
      obtain ⟨σ1, g1, g2, g3⟩ := r_night (dr := dr) hw hR hL
      have kp : Kp (σ1 86) (σ 86) := by rw [g2]; exact Kp_night hw
      rw [fX11_goesOn_5, if_neg (nI_ge (by omega) (by omega)), g1, bi_some, nI_1, nts]
      obtain ⟨σ', k1, k2, k3, k4, k5⟩ := ih (i + 1) n f σ1 (acc + (nightS (σ 86) Λ dr).2) (by omega) hn (by omega) (by rw [g2]; exact hV _ hw) (rl_V hR kp)
      rw [g2] at k1 k2
      exact ⟨σ', k1, k2, k3, k4.tr kp, g3.tr k5⟩
theorem c_try_loop {h0 : Bool} {Λ : pn_La} {dr : Bool} (hL : LW Λ) : ∀ (k i n f : Nat) (σ : pn_S) (V : pn_V) (acc : Int32), i + k = n → n < 100 → k < f → CV σ 8 V → VW V → CL σ 14 h0 Λ → ∃ σ', fX10_tryNights_22 f (nI n) (b01 dr) (nI i) σ = some σ' ∧ CV σ' 8 (nts Λ dr k V acc).1 ∧ VW (nts Λ dr k V acc).1 ∧ vn (nts Λ dr k V acc).1 = vn V ∧ FrN 8 σ σ' := by
  intro k
  induction k with
  | zero =>
    intro i n f σ V acc hi hn hf h hw hC
    match f, hf with
    | f + 1, _ => exact ⟨σ, by rw [fX10_tryNights_22, if_pos (nI_le (by omega) (by omega))], h, hw, rfl, FrN.rf⟩
  | succ k ih =>
    intro i n f σ V acc hi hn hf h hw hC
    match f, hf with
    | f + 1, hf =>
      obtain ⟨σ1, g1, g2, g3, g4, g5⟩ := c_night (dr := dr) (by omega) h hw hC hL
      rw [fX10_tryNights_22, if_neg (nI_ge (by omega) (by omega)), g1, bi_some, nI_1, nts]
      obtain ⟨σ', k1, k2, k3, k4, k5⟩ := ih (i + 1) n f σ1 (nightS V Λ dr).1 (acc + (nightS V Λ dr).2) (by omega) hn (by omega) g2 g3 (cl_N (by omega) hC g5)
      exact ⟨σ', k1, k2, k3, k4.trans g4, g5.tr k5⟩
