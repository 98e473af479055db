/-! PURE: a night; the class -/
def bearS (V : pn_V) (t : Nat) : pn_V := if V 5 = -1 then V else if V 6 + 1 < 3 then upd V 6 (V 6 + 1) else forgV (upd V 6 (V 6 + 1)) t
def ngt (V : pn_V) : pn_V := upd V 3 (if V 3 + 1 < 9999 then V 3 + 1 else 9999)
def dif (dr : Bool) (V : pn_V) : pn_V := if dr = true then dV V else V
def endS (V : pn_V) (z : Int32) (t : Nat) (c : Int32) (dr : Bool) : pn_V × Int32 :=
  if pc c = 0 then (V, 0) else if dr = true ∧ ¬ V 8 ≤ dN V then (fo (fineS c) 0 (vn V) (dV V), 1)
  else if z < tr (dif dr V) t 2 ∨ tr (dif dr V) t 3 < dif dr V 10 * nI (pc c) then (upd (dif dr V) (13 + 8 * t + 2) (mx0 (tr (dif dr V) t 2 - z / 4)), 3) else (buyV (dif dr V) t c, 2)
def wetS (V : pn_V) (dr : Bool) : pn_V := upd (dif dr V) 4 (if dr = true ∧ ¬ V 7 ≤ dN V then 1 else 0)
def rowS (V : pn_V) (t many what : Int32) : Nat → Int32 := fun k => if k = 0 then V 3 else if k = 1 then t else if k = 2 then many else what
def tgt (V : pn_V) : Nat := (V 5).toNatClampNeg
def cameS (V : pn_V) (Λ : pn_La) : Int32 := (crowd V Λ (tgt V) (vbeg V) 0).1
def end2 (V : pn_V) (Λ : pn_La) (dr : Bool) : pn_V × Int32 := endS V (nz (pans V Λ (tgt V)) (cameS V Λ)) (tgt V) (cameS V Λ) dr
def night2 (V : pn_V) (Λ : pn_La) (dr : Bool) : pn_V := bearS (vsh (end2 V Λ dr).1 (rowS (end2 V Λ dr).1 (V 5) (nI (pc (cameS V Λ))) (end2 V Λ dr).2)) (tgt V)
def nightS (V : pn_V) (Λ : pn_La) (dr : Bool) : pn_V × Int32 :=
  if wetS V dr 5 = -1 then (ngt (wetS V dr), 0) else (ngt (night2 (wetS V dr) Λ dr), nI (pc (cameS (wetS V dr) Λ)))
theorem forgV_5 (V : pn_V) (t : Nat) : forgV V t 5 = -1 := by
  unfold forgV
  rw [pk_un (by omega), pk_us]
theorem tgt_eq {V : pn_V} {t : Nat} (ht : t < 8) (h : V 5 = nI t) : tgt V = t := by unfold tgt; rw [h, nI_clamp (by omega)]
theorem dif_W {dr : Bool} {V : pn_V} (h : VW V) : VW (dif dr V) ∧ vn (dif dr V) = vn V := by
  unfold dif
  cases dr with
  | false => exact ⟨h, rfl⟩
  | true => exact ⟨dV_W h, vn_up (by omega)⟩
theorem dif_at {dr : Bool} {V : pn_V} {k : Nat} (hk : k ≠ 12) : dif dr V k = V k := by
  unfold dif
  cases dr with
  | false => rfl
  | true => exact pk_un hk
theorem wet_W {dr : Bool} {V : pn_V} (h : VW V) : VW (wetS V dr) ∧ vn (wetS V dr) = vn V := by
  have d := dif_W (dr := dr) h
  refine ⟨vw_f d.1 (by omega) (by omega) (Or.inr (Or.inr ?_)), ?_⟩
  · split
    · exact ⟨by show (0 : Int) ≤ 1; omega, by show (1 : Int) ≤ 1; omega⟩
    · exact ⟨by show (0 : Int) ≤ 0; omega, by show (0 : Int) ≤ 1; omega⟩
  · unfold wetS
    rw [vn_up (by omega)]; exact d.2
theorem wet_at {dr : Bool} {V : pn_V} {k : Nat} (hk : k ≠ 12) (h4 : k ≠ 4) : wetS V dr k = V k := by
  unfold wetS
  rw [pk_un h4, dif_at hk]
theorem fo_fine_W {c : Int32} : ∀ (k p : Nat) (U : pn_V), VW U → p + k = vn U → VW (fo (fineS c) p k U) ∧ vn (fo (fineS c) p k U) = vn U ∧ ∀ j, j < 13 → fo (fineS c) p k U j = U j := by
  intro k
  induction k with
  | zero => intro p U h _; exact ⟨h, rfl, fun _ _ => rfl⟩
  | succ k ih =>
    intro p U h hp
    have s := fineS_W (c := c) h (p := p) (by omega)
    obtain ⟨a, b, d⟩ := ih (p + 1) (fineS c p U) s.1 (by rw [s.2]; omega)
    refine ⟨a, b.trans s.2, fun j hj => (d j hj).trans ?_⟩
    unfold fineS
    split
    · exact pk_un (by omega)
    · rfl
theorem fo_thir_at {c : Int32} : ∀ (k p : Nat) (U : pn_V) (j : Nat), j < 13 → fo (thirS c) p k U j = U j := by
  intro k
  induction k with
  | zero => intro p U j _; rfl
  | succ k ih =>
    intro p U j hj
    rw [fo, ih _ _ j hj]
    unfold thirS
    split
    · exact pk_un (by omega)
    · rfl
theorem fo_thir_W {c : Int32} : ∀ (k p : Nat) (U : pn_V), VW U → p + k = vn U → VW (fo (thirS c) p k U) ∧ vn (fo (thirS c) p k U) = vn U := by
  intro k
  induction k with
  | zero => intro p U h _; exact ⟨h, rfl⟩
  | succ k ih =>
    intro p U h hp
    have s := thirS_W (c := c) h (p := p) (by omega)
    obtain ⟨a, b⟩ := ih (p + 1) (thirS c p U) s.1 (by rw [s.2]; omega)
    exact ⟨a, b.trans s.2⟩
/-- the noise's end keeps the ranges, and the target but where it buys -/
theorem end_W {V : pn_V} {z : Int32} {t : Nat} {c : Int32} {dr : Bool} (hw : VW V) (ht : t < vn V) (h5 : V 5 = nI t) (hz : 0 ≤ z.toInt) : VW (endS V z t c dr).1 ∧ vn (endS V z t c dr).1 = vn V ∧ ((endS V z t c dr).2 = 2 ∧ (endS V z t c dr).1 5 = -1 ∨ ¬ (endS V z t c dr).2 = 2 ∧ (endS V z t c dr).1 5 = V 5) := by
  have d := dif_W (dr := dr) hw
  unfold endS
  by_cases h0 : pc c = 0
  · rw [if_pos h0]; exact ⟨hw, rfl, Or.inr ⟨by show ¬ (0 : Int32) = 2; decide, rfl⟩⟩
  rw [if_neg h0]
  by_cases h1 : dr = true ∧ ¬ V 8 ≤ dN V
  · rw [if_pos h1]
    have hn : vn (dV V) = vn V := vn_up (by omega)
    obtain ⟨a, b, e⟩ := fo_fine_W (c := c) (vn V) 0 (dV V) (dV_W hw) (by omega)
    exact ⟨a, b.trans hn, Or.inr ⟨by show ¬ (1 : Int32) = 2; decide, (e 5 (by omega)).trans (pk_un (by omega))⟩⟩
  rw [if_neg h1]
  by_cases h2 : z < tr (dif dr V) t 2 ∨ tr (dif dr V) t 3 < dif dr V 10 * nI (pc c)
  · rw [if_pos h2]
    have r := d.1.t (p := t) (k := 2) (by omega) (by omega)
    have r1 : (0 : Int) ≤ (tr (dif dr V) t 2).toInt := r.1
    have r2 : (tr (dif dr V) t 2).toInt ≤ 99 := r.2
    have zr := (q_rng z).2
    have e4 : (z / 4).toInt = z.toInt / 4 := by
      rw [Int32.toInt_div, show (4 : Int32).toInt = 4 from rfl, Int.tdiv_eq_ediv_of_nonneg hz, q_bmod (by omega) (by omega)]
    refine ⟨vw_tr d.1 (by omega) (mx0_rg (by show (0 : Int) ≤ 99; omega) ?_), (vn_up (by omega)).trans d.2, Or.inr ⟨by show ¬ (3 : Int32) = 2; decide, (pk_un (by omega)).trans (dif_at (by omega))⟩⟩
    rw [q_sub (by rw [e4]; omega) (by rw [e4]; omega), e4]
    show _ ≤ (99 : Int)
    omega
  · rw [if_neg h2]
    have hpay : ¬ tr (dif dr V) t 3 < dif dr V 10 * nI (pc c) := fun q => h2 (Or.inr q)
    have pr := price_rg d.1 c
    have r := d.1.t (p := t) (k := 3) (by omega) (by omega)
    have r1 : (0 : Int) ≤ (tr (dif dr V) t 3).toInt := r.1
    have r2 : (tr (dif dr V) t 3).toInt ≤ 9999 := r.2
    rw [q_lt] at hpay
    have hw2 : VW (upd (dif dr V) (13 + 8 * t + 3) (tr (dif dr V) t 3 - dif dr V 10 * nI (pc c))) := vw_tr d.1 (by omega) ⟨by rw [q_sub (by omega) (by omega)]; show (0 : Int) ≤ _; omega, by rw [q_sub (by omega) (by omega)]; show _ ≤ (9999 : Int); omega⟩
    have hn2 : vn (upd (dif dr V) (13 + 8 * t + 3) (tr (dif dr V) t 3 - dif dr V 10 * nI (pc c))) = vn (dif dr V) := vn_up (by omega)
    obtain ⟨a, b⟩ := fo_thir_W (c := c) (vn (dif dr V)) 0 _ hw2 (by omega)
    have fw := forgV_W (t := t) a
    refine ⟨fw.1, fw.2.trans (b.trans (hn2.trans d.2)), Or.inl ⟨rfl, ?_⟩⟩
    show buyV (dif dr V) t c 5 = -1
    unfold buyV
    rw [forgV_5]
