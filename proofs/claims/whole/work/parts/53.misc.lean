/-! PURE: the seed, what is counted, the log, undoing, the image -/
theorem ag_fault : AgP fX10_fault fX11_fault := fun σ h Λ hI => by
  obtain ⟨i1, i2, i3, i4, i5, i6, i7, i8, i9⟩ := id hI
  exact ⟨σ 0 15, pn_up σ 85 0 0, h, Λ, rfl, by unfold fX11_fault; rw [pn_up_k _ _ _ _ (by omega), i9], hI.core Core_thrown⟩
theorem count_c {σ : pn_S} {h : Bool} {Λ : pn_La} (hI : Inv σ h Λ) : ∀ k, k < 15 → ∃ x, fX10_count (nI k) σ = some x ∧ fX11_count (nI k) σ = some (x, pn_up σ 85 0 0) := by
  obtain ⟨i1, i2, i3, i4, i5, i6, i7, i8, i9⟩ := id hI
  obtain ⟨⟨g2, g3, g4, g5, g6, g7, g8, g9, g10, g11, g12, g13⟩, -⟩ := id i1
  obtain ⟨m, y, W, p1, p2, p3⟩ := pst_to i7
  have e86 := w85 σ 0
  intro k hk
  match k, hk with
  | 0, _ => exact ⟨σ 86 0, by rw [← g2]; rfl, by rw [← e86]; rfl⟩
  | 1, _ => exact ⟨σ 86 1, by rw [← g3]; rfl, by rw [← e86]; rfl⟩
  | 2, _ =>
    refine ⟨if h then nI Λ.1 else -1, by rw [← i3.1]; rfl, ?_⟩
    have e : fX11_count (nI 2) σ = if pn_up σ 85 0 0 86 2 = 1 then some (pn_up σ 85 0 0 86 317, pn_up σ 85 0 0) else some (-1, pn_up σ 85 0 0) := rfl
    rw [e, e86, i4.1]
    cases h with
    | false => rw [if_neg (by decide)]; rfl
    | true => rw [if_pos (by decide), i4.2.2.1 rfl]; rfl
  | 3, _ => exact ⟨σ 86 3, by rw [← g6]; rfl, by rw [← e86]; rfl⟩
  | 4, _ =>
    refine ⟨σ 86 4, ?_, by rw [← e86]; rfl⟩
    have e : fX10_count (nI 4) σ = if σ 5 7 = 0 then some 0 else some 1 := rfl
    rw [e, g7]
    rcases rg01 i2.2.2.2.1 with z | z <;> rw [z] <;> rfl
  | 5, _ => exact ⟨σ 86 5, by rw [← g4]; rfl, by rw [← e86]; rfl⟩
  | 6, _ => exact ⟨σ 86 6, by rw [← g5]; rfl, by rw [← e86]; rfl⟩
  | 7, _ => exact ⟨σ 86 7, by rw [← g8]; rfl, by rw [← e86]; rfl⟩
  | 8, _ => exact ⟨σ 86 8, by rw [← g9]; rfl, by rw [← e86]; rfl⟩
  | 9, _ => exact ⟨σ 86 9, by rw [← g10]; rfl, by rw [← e86]; rfl⟩
  | 10, _ => exact ⟨σ 86 10, by rw [← g11]; rfl, by rw [← e86]; rfl⟩
  | 11, _ =>
    refine ⟨vbeg (σ 86), ?_, ?_⟩
    · have e : fX10_count (nI 11) σ = (fX8_beginners 5 σ).bind fun x => some x := rfl
      rw [e, c_beg i1 i2, Option.bind_some]
    · have e : fX11_count (nI 11) σ = (fX11_beginners (pn_up σ 85 0 0)).bind fun x => some (x, pn_up σ 85 0 0) := rfl
      rw [e, r_beg (by rw [e86]; exact i2), Option.bind_some, e86]
  | 12, _ =>
    refine ⟨vpur (σ 86), ?_, ?_⟩
    · have e : fX10_count (nI 12) σ = (fX8_purses 5 σ).bind fun x => some x := rfl
      rw [e, c_pur i1 i2, Option.bind_some]
    · have e : fX11_count (nI 12) σ = (fX11_pursesOfAll (pn_up σ 85 0 0)).bind fun x => some (x, pn_up σ 85 0 0) := rfl
      rw [e, r_pur (by rw [e86]; exact i2), Option.bind_some, e86]
  | 13, _ => exact ⟨σ 86 11, by rw [← g13]; rfl, by rw [← e86]; rfl⟩
  | 14, _ =>
    refine ⟨nI m, by rw [← p1.2.2.1]; rfl, ?_⟩
    have e : fX11_count (nI 14) σ = some (pn_up σ 85 0 0 85 7, pn_up σ 85 0 0) := rfl
    rw [e, pn_up_k _ _ _ _ (by omega), p2.1]
theorem ag_count (a : Int32) : AgP (fX10_count a) (fX11_count a) := fun σ h Λ hI => by
  by_cases q : 0 ≤ a.toInt ∧ a.toInt < 15
  · obtain ⟨k, hk, rfl⟩ := rg_k (n := 15) q.1 q.2
    obtain ⟨x, e1, e2⟩ := count_c hI k hk
    exact ⟨x, _, h, Λ, e1, e2, hI.core Core_thrown⟩
  · have ne : ∀ k : Nat, k < 15 → ¬ a = nI k := fun k hk e => q (by rw [e, nI_toInt (by omega)]; omega)
    refine ⟨-1, _, h, Λ, ?_, ?_, hI.core (Core_thrown (x := 0))⟩
    · unfold fX10_count
      rw [if_neg (show ¬ a = 0 from ne 0 (by omega)), if_neg (show ¬ a = 1 from ne 1 (by omega)), if_neg (show ¬ a = 2 from ne 2 (by omega)), if_neg (show ¬ a = 3 from ne 3 (by omega)), if_neg (show ¬ a = 4 from ne 4 (by omega)), if_neg (show ¬ a = 5 from ne 5 (by omega)), if_neg (show ¬ a = 6 from ne 6 (by omega)), if_neg (show ¬ a = 7 from ne 7 (by omega)), if_neg (show ¬ a = 8 from ne 8 (by omega)), if_neg (show ¬ a = 9 from ne 9 (by omega)), if_neg (show ¬ a = 10 from ne 10 (by omega)), if_neg (show ¬ a = 11 from ne 11 (by omega)), if_neg (show ¬ a = 12 from ne 12 (by omega)), if_neg (show ¬ a = 13 from ne 13 (by omega)), if_neg (show ¬ a = 14 from ne 14 (by omega))]
    · unfold fX11_count
      have e0 : (0 : Int32).toInt = 0 := rfl
      have e10 : (10 : Int32).toInt = 10 := rfl
      rw [if_neg (show ¬ a = 2 from ne 2 (by omega)), if_neg (show ¬ a = 11 from ne 11 (by omega)), if_neg (show ¬ a = 12 from ne 12 (by omega)), if_neg (show ¬ a = 13 from ne 13 (by omega)), if_neg (show ¬ a = 14 from ne 14 (by omega)), (r_in a 0 10 _).2 (by omega), Option.bind_some, if_pos rfl]
/-! the log -/
theorem r_log {τ : pn_S} {V : pn_V} (e : τ 86 = V) {a k : Nat} (ha : a < 60) (hk : k < 4) : fX11_ofLog (nI a) (nI k) τ = some (V (77 + 4 * a + k)) := by
  have ei : (77 : Int32) + 4 * nI a + nI k = nI (77 + 4 * a + k) := by rw [q_lit 77, q_lit 4, pk_mul, nI_add, nI_add]
  unfold fX11_ofLog
  rw [ei, q_ib (by omega) (by omega), if_pos rfl, nI_clamp (by omega), e]
theorem ag_log (a b : Int32) : Ag (fX10_log a b) (fX11_log a b) hL_log := fun σ h Λ hI => by
  have e0 : (0 : Int32).toInt = 0 := rfl
  have e3 : (3 : Int32).toInt = 3 := rfl
  have e4 : (4 : Int32).toInt = 4 := rfl
  have hl := hI.2.1.l
  by_cases q : 0 ≤ b.toInt ∧ b.toInt ≤ 3
  · obtain ⟨k, hk, rfl⟩ := rg_k (n := 4) q.1 (by omega)
    refine Or.inl ⟨if 0 ≤ a.toInt ∧ a.toInt < vl (σ 86) then σ 86 (77 + 4 * a.toNatClampNeg + k) else -1, σ, ?_, fun y => ⟨pn_up (pn_up σ 96 0 y) 85 0 0, h, Λ, ?_, by rw [pn_up_s], by rw [pn_up_a _ _ _ _ (by omega), pn_up_s], (hI.core Core_96).core Core_thrown⟩⟩
    · unfold fX10_log
      rw [if_neg (by rw [q_lt]; omega), if_pos (by rw [q_lt]; omega), c_row hI.1 hI.2.1 hk, Option.bind_some]
    · have e1 : (nI (vl (σ 86)) - 1).toInt = vl (σ 86) - 1 := by
        have e2 : (nI (vl (σ 86))).toInt = vl (σ 86) := nI_toInt (by omega)
        have e3 : (1 : Int32).toInt = 1 := rfl
        rw [q_sub (by omega) (by omega)]
        omega
      unfold fX11_log fX11_log_20
      rw [(r_in (nI k) 0 3 _).1 q, Option.bind_some, if_neg (by decide), r_t0, bi_some, if_pos rfl, w96, hl.1]
      obtain ⟨j1, j2⟩ := r_in a 0 (nI (vl (σ 86)) - 1) (pn_up (pn_up σ 96 0 y) 85 0 0)
      rw [e0, e1] at j1 j2
      by_cases qa : 0 ≤ a.toInt ∧ a.toInt < vl (σ 86)
      · obtain ⟨i, hi, rfl⟩ := rg_k (n := vl (σ 86)) qa.1 qa.2
        rw [j1 (by omega), Option.bind_some, if_neg (by decide), r_log (w96 σ y 0) (by omega) hk, Option.bind_some, if_pos qa, nI_clamp (by omega)]
      · rw [j2 (by omega), Option.bind_some, if_pos rfl, if_neg qa]
  · refine Or.inr ⟨"java/util/NoSuchElementException", σ, 0, pn_up (pn_up σ 85 0 0) 85 0 1, h, Λ, ?_, ?_, by rw [pn_up_s]; exact if_pos rfl, by rw [pn_up_s]; decide, (hI.core Core_thrown).core Core_thrown⟩
    · unfold fX10_log fX10_log_9
      by_cases h0 : b < 0
      · rw [if_pos h0]
      · rw [if_neg h0, if_neg]
        rw [q_lt] at h0 ⊢
        omega
    · unfold fX11_log fX11_log_20
      rw [(r_in b 0 3 _).2 q, Option.bind_some, if_pos rfl, r_t1, bi_some, if_neg (by decide)]
/-- rows of t from the row b on, j of them: how many, and the night of the first -/
def ldR (V : pn_V) (t : Int32) : Nat → Nat → Nat × Int32
  | _, 0 => (0, -1)
  | b, j + 1 => if V (77 + 4 * b + 1) = t then ((ldR V t (b + 1) j).1 + 1, V (77 + 4 * b)) else ldR V t (b + 1) j
theorem ldR_le (V : pn_V) (t : Int32) : ∀ j b, (ldR V t b j).1 ≤ j := by
  intro j
  induction j with
  | zero => intro b; exact Nat.le_refl _
  | succ j ih =>
    intro b
    rw [ldR]
    have := ih (b + 1)
    split
    · show _ + 1 ≤ _; omega
    · omega
theorem c_led {σ : pn_S} {V : pn_V} {t w : Int32} (h : CV σ 5 V) (hw : VW V) : ∀ (j b f c : Nat) (l : Int32), b + j = vl V → j < f → c + j < 1000 → fX10_led_13 f t w (nI c) l (nI b) σ = some (.inl (if w = 0 then nI (c + (ldR V t b j).1) else if c = 0 ∧ (ldR V t b j).1 ≠ 0 then (ldR V t b j).2 else l), σ) := by
  have hl := hw.l
  have e : σ 5 13 = nI (vl V) := by rw [h.1.2.2.2.2.2.2.2.2.2.2.2, hl.1]
  intro j
  induction j with
  | zero =>
    intro b f c l hb hf hc
    match f, hf with
    | f + 1, _ =>
      rw [fX10_led_13, e, if_pos (nI_le (by omega) (by omega)), ldR]
      show _ = some (Sum.inl (if w = 0 then nI (c + 0) else if c = 0 ∧ 0 ≠ 0 then -1 else l), σ)
      rw [if_neg (show ¬ (c = 0 ∧ 0 ≠ 0) from fun z => z.2 rfl), Nat.add_zero]
      split <;> rfl
  | succ j ih =>
    intro b f c l hb hf hc
    match f, hf with
    | f + 1, hf =>
      have eb : (nI b).toInt = b := nI_toInt (by omega)
      have hin : 0 ≤ (nI b).toInt ∧ (nI b).toInt < vl V := by rw [eb]; omega
      have g1 : fX8_row 5 (nI b) 1 σ = some (V (77 + 4 * b + 1)) := by
        have := c_row h hw (k := 1) (by omega) (nI b)
        rw [if_pos hin, nI_clamp (by omega)] at this
        exact this
      have g0 : fX8_row 5 (nI b) 0 σ = some (V (77 + 4 * b)) := by
        have := c_row h hw (k := 0) (by omega) (nI b)
        rw [if_pos hin, nI_clamp (by omega)] at this
        exact this
      rw [fX10_led_13, e, if_neg (nI_ge (by omega) (by omega)), g1, Option.bind_some, ldR, nI_1]
      by_cases q : V (77 + 4 * b + 1) = t
      · rw [if_pos q, if_pos q, g0, Option.bind_some, nI_1]
        by_cases qc : c = 0
        · subst qc
          rw [if_pos (show nI 0 = 0 from rfl), ih (b + 1) f _ _ (by omega) (by omega) (by omega), if_neg (show ¬ (0 + 1 = 0 ∧ _) from fun z => by omega)]
          show _ = some (Sum.inl (if w = 0 then nI (0 + ((ldR V t (b + 1) j).1 + 1)) else if 0 = 0 ∧ (ldR V t (b + 1) j).1 + 1 ≠ 0 then V (77 + 4 * b) else l), σ)
          rw [if_pos (show 0 = 0 ∧ (ldR V t (b + 1) j).1 + 1 ≠ 0 from ⟨rfl, by omega⟩), show 0 + 1 + (ldR V t (b + 1) j).1 = 0 + ((ldR V t (b + 1) j).1 + 1) by omega]
        · rw [if_neg (show ¬ nI c = 0 from fun z => qc ((nI_eq (b := 0) (by omega) (by omega)).mp z)), ih (b + 1) f _ _ (by omega) (by omega) (by omega), if_neg (show ¬ (c + 1 = 0 ∧ _) from fun z => by omega)]
          show _ = some (Sum.inl (if w = 0 then nI (c + ((ldR V t (b + 1) j).1 + 1)) else if c = 0 ∧ (ldR V t (b + 1) j).1 + 1 ≠ 0 then V (77 + 4 * b) else l), σ)
          rw [if_neg (show ¬ (c = 0 ∧ (ldR V t (b + 1) j).1 + 1 ≠ 0) from fun z => qc z.1), show c + 1 + (ldR V t (b + 1) j).1 = c + ((ldR V t (b + 1) j).1 + 1) by omega]
      · rw [if_neg q, if_neg q, nI_1, ih (b + 1) f _ _ (by omega) (by omega) (by omega)]
theorem ld0 (V : pn_V) (t : Int32) : ∀ j b, (ldR V t b j).1 = 0 → (ldR V t b j).2 = -1 := by
  intro j
  induction j with
  | zero => intro b _; rfl
  | succ j ih =>
    intro b
    rw [ldR]
    by_cases q : V (77 + 4 * b + 1) = t
    · rw [if_pos q]; intro h; exact absurd h (by show ¬ (_ + 1 = 0); omega)
    · rw [if_neg q]; exact ih (b + 1)
theorem r_led {τ : pn_S} {V : pn_V} {t w : Int32} (e : τ 86 = V) (hw : VW V) : ∀ (b f : Nat), b ≤ vl V → b < f → fX11_led_36 f t w (nI (ldR V t b (vl V - b)).1) (ldR V t b (vl V - b)).2 (nI b - 1) τ = some (if w = 0 then nI (ldR V t 0 (vl V)).1 else (ldR V t 0 (vl V)).2, τ) := by
  have hl := hw.l
  intro b
  induction b with
  | zero =>
    intro f hb hf
    match f, hf with
    | f + 1, _ =>
      rw [fX11_led_36, if_pos (show nI 0 - 1 < 0 by decide), Nat.sub_zero]
      split <;> rfl
  | succ b ih =>
    intro f hb hf
    match f, hf with
    | f + 1, hf =>
      have eb : nI (b + 1) - 1 = nI b := by rw [prd_nI (by omega)]; rfl
      have g1 : fX11_ofLog (nI b) 1 τ = some (V (77 + 4 * b + 1)) := r_log e (k := 1) (by omega) (by omega)
      have g0 : fX11_ofLog (nI b) 0 τ = some (V (77 + 4 * b)) := r_log e (k := 0) (by omega) (by omega)
      have em : nI b + -1 = nI b - 1 := by grind
      rw [fX11_led_36, eb, if_neg (nI_pos (by omega)), g1, Option.bind_some, em]
      have hj : vl V - b = (vl V - (b + 1)) + 1 := by omega
      have h2 := ih f (by omega) (by omega)
      rw [hj, ldR] at h2
      by_cases q : V (77 + 4 * b + 1) = t
      · rw [if_pos q] at h2
        rw [if_pos q, g0, Option.bind_some, nI_1]
        exact h2
      · rw [if_neg q] at h2
        rw [if_neg q]
        exact h2
theorem ag_led (a w : Int32) : Ag (fX10_led a w) (fX11_led a w) hL_led :=
  ag_1 (a := a) (fun _ => rfl) (fun _ => rfl) (if_pos rfl) fun σ h Λ p hI hp ha => by
    have hl := hI.2.1.l
    refine agb_ro hI (x := if w = 0 then nI (ldR (σ 86) a 0 (vl (σ 86))).1 else (ldR (σ 86) a 0 (vl (σ 86))).2) (σ1 := σ) ?_ Core.rf fun τ iτ eτ => ⟨τ, ?_, FrR.rf⟩
    · have := c_led (t := a) (w := w) hI.1 hI.2.1 (vl (σ 86)) 0 5000 0 (-1) (by omega) (by omega) (by omega)
      refine this.trans ?_
      rw [Nat.zero_add]
      by_cases q : (ldR (σ 86) a 0 (vl (σ 86))).1 = 0
      · rw [if_neg (show ¬ (0 = 0 ∧ (ldR (σ 86) a 0 (vl (σ 86))).1 ≠ 0) from fun z => z.2 q), ld0 _ _ _ _ q]
      · rw [if_pos (show 0 = 0 ∧ (ldR (σ 86) a 0 (vl (σ 86))).1 ≠ 0 from ⟨rfl, q⟩)]
    · have := r_led (t := a) (w := w) eτ hI.2.1 (vl (σ 86)) 5000 (Nat.le_refl _) (by omega)
      rw [Nat.sub_self] at this
      rw [eτ, hl.1]
      exact this
/-! the seed -/
theorem ag_seed (a : Int32) : AgI (fX10_seed a) (fX11_seed a) := fun σ h Λ hI => by
  obtain ⟨i1, i2, i3, i4, i5, ⟨n, t1, t2, t3, t4⟩, i7, ⟨g1, g2, g3⟩, i9⟩ := id hI
  obtain ⟨m, x, W, p1, p2, p3⟩ := pst_to i7
  refine ⟨σ 86 12, pn_up σ 5 12 a, pn_up (pn_up (pn_up σ 5 12 a) 85 0 0) 86 12 a, h, Λ, ?_, ?_, ?_⟩
  · unfold fX10_seed
    rw [i1.1.2.2.2.2.2.2.2.2.2.2.1]
  · unfold fX11_seed
    rw [w85, pn_up_a _ _ _ _ (by omega)]
  · have fa : FrA σ (pn_up σ 5 12 a) := FrA_fr (Fr.rf.up (by omega))
    have c5 : CV (pn_up σ 5 12 a) 5 (upd (σ 86) 12 a) := cv_fld i1 12 12 a (by omega)
    have hw : VW (upd (σ 86) 12 a) := vw_f i2 (by omega) (by omega) (Or.inl rfl)
    have y96 : pn_up (pn_up σ 5 12 a) 96 0 (σ 96 0) = pn_up σ 5 12 a := by
      funext i j
      unfold pn_up
      by_cases q : i = 96
      · subst q
        by_cases q2 : j = 0
        · subst q2; simp
        · simp [q2]
      · simp [q]
    have := act_fin (y := σ 96 0) (m := m) (x := x) (W := W) (τ2 := pn_up (pn_up (pn_up σ 5 12 a) 85 0 0) 86 12 a) hI fa c5 hw (cp_fr p1 (pn_up_a _ _ _ _ (by omega)) fun i h1 h2 => pn_up_a _ _ _ _ (by omega)) (by rw [y96]; exact FrB_fr (Fr.rf.up (by omega))) (by rw [pn_up_row, w85, pn_up_a _ _ _ _ (by omega)]) (Kp_up (by omega)) (by
      refine ⟨?_, fun j hj k hk => ?_⟩
      · rw [pn_up_a _ _ _ _ (by omega), pn_up_k _ _ _ _ (by omega), pn_up_a _ _ _ _ (by omega)]; exact p2.1
      · rw [pn_up_a _ _ _ _ (by omega), pn_up_a _ _ _ _ (by omega), pn_up_a _ _ _ _ (by omega)]; exact p2.2 j hj k hk) p3
    exact this.2.2
