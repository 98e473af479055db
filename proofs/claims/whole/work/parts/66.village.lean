/-! PURE: the lines of a village -/
section
variable {c w : Nat → Int32} {n : Nat} {T P : Nat → Int32} {m : Nat}
theorem j_feud (hb : HB c w n) {σ τ : pn_S} {k s : Nat} (h : LSt c w n T P m σ τ k s) (hC : CV σ 8 (τ 86)) (hw : VW (τ 86)) (hc : cod c n s = nI (1000 + 8)) : JL c w n T P m σ τ s (fX9_readFeud σ) (fX11_readFeud τ) := by
  have hn := hw.n.2
  have h400 := hb.1
  unfold fX9_readFeud fX11_readFeud fX9_readFeud_44 fX11_readFeud_26
  rcases j_told hb h hC hw (q := 8) (by omega) hc with ⟨p, i', σ', τ', a1, a2, a3, a4, a5, a6, a7⟩ | ⟨p, σ', τ', a1, a2, a3, a4, a5, a6, a7⟩
  · have a2 : fX7_takeNumberAfter 1008 (σ 8 2 - 1) σ = some (nI p, σ') := a2
    have e86 : τ' 86 = τ 86 := a5.1 86 (by omega)
    have ep : (nI p).toInt = p := nI_toInt (by omega)
    have e0 : (0 : Int32).toInt = 0 := rfl
    rw [a2, bi_some, a3, bi_some, if_pos (show (0 : Int32) ≤ nI p by rw [q_le]; omega), r_people (by rw [e86]; exact hw), Option.bind_some, e86]
    obtain ⟨b1, b2, b3, b4⟩ := a4
    obtain ⟨s1, s2⟩ := sk_le (c := c) b2.2.2.2
    obtain ⟨τ2, f2, g⟩ := r_aft hb b2 (k := 9) (by omega) (nI (vn (τ 86)) - 1)
    rcases g with ⟨z, g1, g2⟩ | ⟨z, g1, g2, g3⟩
    · have t0 : fX7_take 1009 σ' = some (0, σ') := (c_tk b4 b1 b3 _).2 z
      have g1 : fX11_after 10 0 (nI (vn (τ 86)) - 1) τ' = some (-1, τ2) := g1
      rw [t0, bi_some, if_pos rfl, c_fl b4 b1 b3, bi_some, if_pos (by decide), g1, bi_some, if_pos (by decide)]
      exact Or.inr ⟨_, τ2, sk c n i', rfl, rfl, s2, pn_up_s _ _ _ _, g2, (FrK_1 a7).tr (FrK_up (by omega)), (FrV_P a5).tr (FrV_P f2)⟩
    · have t0 : fX7_take 1009 σ' = some (1, pn_up σ' 1 6 (nI (k + 2 + 1))) := (c_tk b4 b1 b3 _).1 z
      have g1 : fX11_after 10 0 (nI (vn (τ 86)) - 1) τ' = some (nok c n (nI (vn (τ 86)) - 1) (sk c n (en c n (sk c n i'))), τ2) := g1
      obtain ⟨e1, e2⟩ := wd_en hb s2 (k := 9) (by omega) z
      have ht := b3.to.2.2.2 e2
      have hle := en_le c e2
      obtain ⟨u1, u2⟩ := sk_le (c := c) (i := en c n (sk c n i')) hle
      have gt := en_gt c (n := n) (s := sk c n i')
      have gt2 := en_gt c (n := n) (s := sk c n (en c n (sk c n i')))
      have f7 : Fr1 σ (pn_up σ' 1 6 (nI (k + 2 + 1))) := a7.tr (Fr1_up (by omega))
      have e8 : pn_up σ' 1 6 (nI (k + 2 + 1)) 8 2 = nI (vn (τ 86)) := by rw [f7.1 8 (by omega)]; exact ppl hC hw
      rw [t0, bi_some, if_neg (by decide), c_nx b4 b1.nx ht, Option.bind_some, c_fl b4 b1.nx ht, bi_some, if_pos (show pn_b01 0 = true by decide), e8, g1, bi_some]
      by_cases y : cod c n (sk c n (en c n (sk c n i'))) = nI p
      · have ok : nok c n (nI (vn (τ 86)) - 1) (sk c n (en c n (sk c n i'))) = nI p := by
          unfold nok
          rw [y, if_pos ⟨by rw [q_le, pm1 hn]; omega, by rw [q_le]; show _ ≤ (999 : Int); omega⟩]
        rw [if_pos y, ok, if_neg (show ¬ nI p < 0 from nI_pos (by omega)), if_pos rfl]
        exact Or.inr ⟨_, τ2, sk c n (en c n (sk c n i')), rfl, rfl, u2, pn_up_s _ _ _ _, g3, (FrK_1 f7).tr (FrK_up (by omega)), (FrV_P a5).tr (FrV_P f2)⟩
      · rw [if_neg y]
        by_cases x : cod c n (sk c n (en c n (sk c n i'))) ≤ nI (vn (τ 86)) - 1 ∧ cod c n (sk c n (en c n (sk c n i'))) ≤ 999
        · have x1 := x.1
          rw [q_le, pm1 hn] at x1
          have x0 := (cod_rg hb (sk c n (en c n (sk c n i')))).1
          obtain ⟨v1, v2⟩ := num_en hb (s := sk c n (en c n (sk c n i'))) (by omega)
          obtain ⟨q, hq, eq⟩ := rg_k (a := cod c n (sk c n (en c n (sk c n i')))) (n := vn (τ 86)) x0 (by omega)
          have cv2 : CV (pn_up (pn_up σ' 1 6 (nI (k + 2 + 1))) 1 6 (nI (k + 2 + 1 + 1))) 8 (τ 86) := cv_1 hC (f7.tr (Fr1_up (by omega)))
          have tl := c_tell cv2 hw a1 (k := 5) (by omega) (nI q)
          have tl1 : fX8_tell 8 (nI p) 5 (nI q) (pn_up (pn_up σ' 1 6 (nI (k + 2 + 1))) 1 6 (nI (k + 2 + 1 + 1))) = some (tr (τ 86) p 5, pn_up (pn_up (pn_up σ' 1 6 (nI (k + 2 + 1))) 1 6 (nI (k + 2 + 1 + 1))) 9 (8 * p + 5) (nI q)) := tl.1
          have ea : fX11_at (nI p) 5 τ2 = some (nI (13 + 8 * p + 5)) := r_at'
          have ok : nok c n (nI (vn (τ 86)) - 1) (sk c n (en c n (sk c n i'))) = nI q := by unfold nok; rw [if_pos x, eq]
          rw [(c_tn b4 b1.nx ht _).1 x, bi_some, b1.nx.nx.2.2.2.1, if_pos rfl, eq, tl1, bi_some, ok, if_neg (show ¬ nI q < 0 from nI_pos (by omega)), if_neg (by rw [← eq]; exact y), ea, Option.bind_some, q_ib (by omega) (by omega), if_pos rfl, nI_clamp (by omega)]
          have row : pn_up τ2 86 (13 + 8 * p + 5) (nI q) 86 = upd (τ 86) (13 + 8 * p + 5) (nI q) := by rw [pn_up_row, f2.1 86 (by omega), e86]
          rw [← v1] at g2
          have js : JS c w n T P m (pn_up (pn_up σ' 1 6 (nI (k + 2 + 1))) 1 6 (nI (k + 2 + 1 + 1))) τ2 (k + 2 + 1 + 1) (en c n (sk c n (en c n (sk c n i')))) := ⟨b1.nx.nx, g2, ht.to.2.2.2 v2, b4⟩
          have eq' : (nI q).toInt = q := nI_toInt (by omega)
          exact Or.inl ⟨_, _, k + 2 + 1 + 1, _, rfl, rfl, js.v (by rw [pn_up_a _ _ _ _ (by omega)]) (by rw [pn_up_a _ _ _ _ (by omega)]) (by rw [pn_up_a _ _ _ _ (by omega)]) (by rw [pn_up_a _ _ _ _ (by omega)]) (by rw [pn_up_a _ _ _ _ (by omega)]) (by rw [pn_up_a _ _ _ _ (by omega)]), by omega, by rw [row]; exact tl.2, by rw [row]; exact vw_tr hw (by omega) ⟨by rw [eq']; show (-1 : Int) ≤ _; omega, by rw [eq']; show _ ≤ (vn (τ 86) : Int) - 1; omega⟩, ((FrK_1 f7).tr (FrK_up (by omega))).tr (FrK_up (by omega)), ((FrV_P a5).tr (FrV_P f2)).tr (FrV_86 (by omega))⟩
        · have ok : nok c n (nI (vn (τ 86)) - 1) (sk c n (en c n (sk c n i'))) = -1 := by unfold nok; rw [if_neg x]
          have bd : Bad (pn_up (pn_up σ' 1 6 (nI (k + 2 + 1))) 1 7 (nI (sk c n (en c n (sk c n i'))))) := bad_7 (by omega)
          rw [(c_tn b4 b1.nx ht _).2 x, bi_some, if_neg bd, ok, if_pos (show (-1 : Int32) < 0 by decide)]
          exact Or.inr ⟨_, τ2, sk c n (en c n (sk c n i')), rfl, rfl, u2, pn_up_s _ _ _ _, g3, (FrK_1 f7).tr (FrK_up (by omega)), (FrV_P a5).tr (FrV_P f2)⟩
  · have a2 : fX7_takeNumberAfter 1008 (σ 8 2 - 1) σ = some (-1, σ') := a2
    have bd : Bad σ' := by unfold Bad; rw [a5]; exact p7 (by omega)
    rw [a2, bi_some, b_tk bd, bi_some, if_pos rfl, b_fl bd, bi_some, if_pos (by decide), a3, bi_some, if_neg (show ¬ (0 : Int32) ≤ -1 by decide), if_pos (by decide)]
    exact Or.inr ⟨σ', τ', p, rfl, rfl, a1, a5, a4, FrK_1 a7, FrV_P a6⟩
/-- a word that may stand there, either way -/
theorem j_pas2 (hb : HB c w n) {σ τ : pn_S} {k i q : Nat} (h : JS c w n T P m σ τ k i) (hq : q < 27) : ∃ (B : Bool) (σ' τ' : pn_S) (k' i' : Nat), fX7_take (nI (1000 + q)) σ = some (b01 B, σ') ∧ fX11_passes (sid.getD q 0) τ = some (b01 B, τ') ∧ JS c w n T P m σ' τ' k' i' ∧ FrP τ τ' ∧ Fr1 σ σ' ∧ i ≤ i' := by
  rcases j_pass hb h hq with ⟨i', τ', _, a2, a3, a4, a5, a6, _⟩ | ⟨τ', _, a2, a3, a4, a5, _⟩
  · exact ⟨true, _, τ', k + 1, i', a2, a3, a4, a5, Fr1_up (by omega), by omega⟩
  · exact ⟨false, σ, τ', k, _, a2, a3, a4, a5, Fr1.rf, (sk_le (c := c) h.2.1.2.2.2).1⟩
theorem js_86 {σ τ : pn_S} {k i j : Nat} {x : Int32} (h : JS c w n T P m σ τ k i) : JS c w n T P m σ (pn_up τ 86 j x) k i := h.v rfl rfl rfl (by rw [pn_up_a _ _ _ _ (by omega)]) (by rw [pn_up_a _ _ _ _ (by omega)]) (pn_up_a _ _ _ _ (by omega))
theorem js_9 {σ τ : pn_S} {k i a j : Nat} {x : Int32} (h : JS c w n T P m σ τ k i) (ha : a = 8 ∨ a = 9) : JS c w n T P m (pn_up σ a j x) τ k i := h.v (pn_up_a _ _ _ _ (by omega)) (pn_up_a _ _ _ _ (by omega)) (pn_up_a _ _ _ _ (by omega)) rfl rfl rfl
theorem j_person (hb : HB c w n) {σ τ : pn_S} {k s : Nat} (h : LSt c w n T P m σ τ k s) (hC : CV σ 8 (τ 86)) (hw : VW (τ 86)) (hc : cod c n s = nI (1000 + 0)) : JL c w n T P m σ τ s (fX9_readPerson σ) (fX11_readPerson τ) := by
  have hn := hw.n.2
  have h400 := hb.1
  have e8 := ppl hC hw
  have lt1 : ¬ (0 : Int32) ≤ -1 := by decide
  unfold fX9_readPerson fX9_readPerson_25 fX11_readPerson
  rw [r_people hw, Option.bind_some, e8]
  by_cases full : vn (τ 86) = 8
  · rw [full, if_pos (show (8 : Int32) ≤ nI 8 by decide), h.js.2, bi_some, if_pos (by decide), if_pos (show nI 8 = 8 from rfl)]
    exact h.fail rfl rfl
  · have gt := en_gt c (n := n) (s := s)
    obtain ⟨g0, hs⟩ := h.go hb (q := 0) (by omega) hc
    have t0 : fX7_take 1000 σ = some (1, pn_up σ 1 6 (nI (k + 1))) := (c_tk h.2.2.2.1 h.1 h.2.2.1 _).1 (by rw [h.2.2.2.2]; exact hc)
    have fσ : Fr1 σ (pn_up σ 1 6 (nI (k + 1))) := Fr1_up (by omega)
    rw [if_neg (show ¬ (8 : Int32) ≤ nI (vn (τ 86)) from nI_ge (b := 8) (by omega) (by omega)), if_neg (show ¬ nI (vn (τ 86)) = 8 from fun z => full ((nI_eq (b := 8) (by omega) (by omega)).mp z)), t0, bi_some, if_neg (by decide)]
    unfold fX11_readPerson_40 fX11_readPerson_58
    rcases j_aft hb g0 (q := 1) (by omega) 8 with ⟨x5, i1, σ1, τ1, a1, a2, a3, a4, a5, a6, a7, a8, a9⟩ | ⟨p, σ1, τ1, a1, a2, a3, a4, a5, a6, a7⟩
    rotate_left
    · have a2 : fX7_takeNumberAfter 1001 8 (pn_up σ 1 6 (nI (k + 1))) = some (-1, σ1) := a2
      have a3 : fX11_after 2 0 8 τ = some (-1, τ1) := a3
      have bd : Bad σ1 := by unfold Bad; rw [a5]; exact p7 (by omega)
      rw [a2, bi_some, b_ta bd, bi_some, b_ta bd, bi_some, b_ta bd, bi_some, b_tk bd, bi_some, b_tk bd, bi_some, if_neg bd, a3, bi_some, if_neg lt1, if_neg lt1, if_neg lt1]
      unfold fX11_readPerson_79
      rw [if_neg lt1]
      exact Or.inr ⟨σ1, τ1, p, rfl, rfl, a1, a5, a4, FrK_1 (fσ.tr a7), FrV_P a6⟩
    have a1 : fX7_takeNumberAfter 1001 8 (pn_up σ 1 6 (nI (k + 1))) = some (x5, σ1) := a1
    have a2 : fX11_after 2 0 8 τ = some (x5, τ1) := a2
    have p5 : (0 : Int32) ≤ x5 := by rw [q_le]; exact a3
    rw [a1, bi_some, a2, bi_some, if_pos p5]
    have fσ1 : Fr1 σ σ1 := fσ.tr a9
    rcases j_aft hb a6 (q := 2) (by omega) 9 with ⟨x6, i2, σ2, τ2, b1, b2, b3, b4, b5, b6, b7, b8, b9⟩ | ⟨p, σ2, τ2, b1, b2, b3, b4, b5, b6, b7⟩
    rotate_left
    · have b2 : fX7_takeNumberAfter 1002 9 σ1 = some (-1, σ2) := b2
      have b3 : fX11_after 3 0 9 τ1 = some (-1, τ2) := b3
      have bd : Bad σ2 := by unfold Bad; rw [b5]; exact p7 (by omega)
      rw [b2, bi_some, b_ta bd, bi_some, b_ta bd, bi_some, b_tk bd, bi_some, b_tk bd, bi_some, if_neg bd, b3, bi_some, if_neg lt1, if_neg lt1]
      unfold fX11_readPerson_79
      rw [if_neg lt1]
      exact Or.inr ⟨σ2, τ2, p, rfl, rfl, b1, b5, b4, FrK_1 (fσ1.tr b7), FrV_P (a7.tr b6)⟩
    have b1 : fX7_takeNumberAfter 1002 9 σ1 = some (x6, σ2) := b1
    have b2 : fX11_after 3 0 9 τ1 = some (x6, τ2) := b2
    have p6 : (0 : Int32) ≤ x6 := by rw [q_le]; exact b3
    rw [b1, bi_some, b2, bi_some, if_pos p6]
    have fσ2 : Fr1 σ σ2 := fσ1.tr b9
    rcases j_aft hb b6 (q := 3) (by omega) 99 with ⟨x7, i3, σ3, τ3, d1, d2, d3, d4, d5, d6, d7, d8, d9⟩ | ⟨p, σ3, τ3, d1, d2, d3, d4, d5, d6, d7⟩
    rotate_left
    · have d2 : fX7_takeNumberAfter 1003 99 σ2 = some (-1, σ3) := d2
      have d3 : fX11_after 4 0 99 τ2 = some (-1, τ3) := d3
      have bd : Bad σ3 := by unfold Bad; rw [d5]; exact p7 (by omega)
      rw [d2, bi_some, b_ta bd, bi_some, b_tk bd, bi_some, b_tk bd, bi_some, if_neg bd, d3, bi_some, if_neg lt1]
      unfold fX11_readPerson_79
      rw [if_neg lt1]
      exact Or.inr ⟨σ3, τ3, p, rfl, rfl, d1, d5, d4, FrK_1 (fσ2.tr d7), FrV_P ((a7.tr b7).tr d6)⟩
    have d1 : fX7_takeNumberAfter 1003 99 σ2 = some (x7, σ3) := d1
    have d2 : fX11_after 4 0 99 τ2 = some (x7, τ3) := d2
    have p7' : (0 : Int32) ≤ x7 := by rw [q_le]; exact d3
    rw [d1, bi_some, d2, bi_some, if_pos p7']
    have fσ3 : Fr1 σ σ3 := fσ2.tr d9
    rcases j_aft hb d6 (q := 4) (by omega) 999 with ⟨x8, i4, σ4, τ4, e1, e2, e3, e4, e5, e6, e7, e8', e9⟩ | ⟨p, σ4, τ4, e1, e2, e3, e4, e5, e6, e7⟩
    rotate_left
    · have e2 : fX7_takeNumberAfter 1004 999 σ3 = some (-1, σ4) := e2
      have e3 : fX11_after 5 0 999 τ3 = some (-1, τ4) := e3
      have bd : Bad σ4 := by unfold Bad; rw [e5]; exact p7 (by omega)
      rw [e2, bi_some, b_tk bd, bi_some, b_tk bd, bi_some, if_neg bd, e3, bi_some]
      unfold fX11_readPerson_79
      rw [if_neg lt1]
      exact Or.inr ⟨σ4, τ4, p, rfl, rfl, e1, e5, e4, FrK_1 (fσ3.tr e7), FrV_P (((a7.tr b7).tr d7).tr e6)⟩
    have e1 : fX7_takeNumberAfter 1004 999 σ3 = some (x8, σ4) := e1
    have e2 : fX11_after 5 0 999 τ3 = some (x8, τ4) := e2
    have p8 : (0 : Int32) ≤ x8 := by rw [q_le]; exact e3
    rw [e1, bi_some, e2, bi_some]
    have fσ4 : Fr1 σ σ4 := fσ3.tr e9
    have fτ4 : FrP τ τ4 := ((a7.tr b7).tr d7).tr e7
    have r86 : τ4 86 = τ 86 := fτ4.1 86 (by omega)
    generalize hp : vn (τ 86) = p at *
    have hp8 : p < 8 := by omega
    unfold fX11_readPerson_79
    have t0 : ∀ z, fX11_at (nI p) 0 z = some (nI (13 + 8 * p + 0)) := fun z => r_at'
    have t1 : ∀ z, fX11_at (nI p) 1 z = some (nI (13 + 8 * p + 1)) := fun z => r_at'
    have t2 : ∀ z, fX11_at (nI p) 2 z = some (nI (13 + 8 * p + 2)) := fun z => r_at'
    have t3 : ∀ z, fX11_at (nI p) 3 z = some (nI (13 + 8 * p + 3)) := fun z => r_at'
    have t4 : ∀ z, fX11_at (nI p) 4 z = some (nI (13 + 8 * p + 4)) := fun z => r_at'
    have t5 : ∀ z, fX11_at (nI p) 5 z = some (nI (13 + 8 * p + 5)) := fun z => r_at'
    have t6 : ∀ z, fX11_at (nI p) 6 z = some (nI (13 + 8 * p + 6)) := fun z => r_at'
    have t7 : ∀ z, fX11_at (nI p) 7 z = some (nI (13 + 8 * p + 7)) := fun z => r_at'
    have ib : ∀ t, t < 8 → pn_ib (nI (13 + 8 * p + t)) 2015 = true := fun t ht => q_ib (by omega) (by omega)
    rw [if_pos p8, t0, Option.bind_some, ib 0 (by omega), if_pos rfl, nI_clamp (by omega), t1, Option.bind_some, ib 1 (by omega), if_pos rfl, nI_clamp (by omega), t2, Option.bind_some, ib 2 (by omega), if_pos rfl, nI_clamp (by omega), t3, Option.bind_some, ib 3 (by omega), if_pos rfl, nI_clamp (by omega), t4, Option.bind_some, ib 4 (by omega), if_pos rfl, nI_clamp (by omega), t5, Option.bind_some, ib 5 (by omega), if_pos rfl, nI_clamp (by omega), t6, Option.bind_some]
    obtain ⟨B5, σ5, τ5, k5, i5, f1, f2, f3, f4, f5, f6⟩ := j_pas2 hb (q := 5) (js_86 (j := 13 + 8 * p + 5) (x := -1) (js_86 (j := 13 + 8 * p + 4) (x := 0) (js_86 (j := 13 + 8 * p + 3) (x := x8) (js_86 (j := 13 + 8 * p + 2) (x := x7) (js_86 (j := 13 + 8 * p + 1) (x := x6) (js_86 (j := 13 + 8 * p + 0) (x := x5) e6)))))) (by omega)
    have f1 : fX7_take 1005 σ4 = some (b01 B5, σ5) := f1
    have f2 : fX11_passes 6 (pn_up (pn_up (pn_up (pn_up (pn_up (pn_up τ4 86 (13 + 8 * p + 0) x5) 86 (13 + 8 * p + 1) x6) 86 (13 + 8 * p + 2) x7) 86 (13 + 8 * p + 3) x8) 86 (13 + 8 * p + 4) 0) 86 (13 + 8 * p + 5) (-1)) = some (b01 B5, τ5) := f2
    rw [f1, bi_some, f2, bi_some]
    unfold fX11_readPerson_180
    rw [ib 6 (by omega), if_pos rfl, if_pos rfl, nI_clamp (by omega), t7, Option.bind_some, t7, Option.bind_some]
    obtain ⟨B6, σ6, τ6, k6, i6, h1, h2, h3, h4, h5, h6⟩ := j_pas2 hb (q := 6) (js_86 (j := 13 + 8 * p + 6) (x := b01 B5) f3) (by omega)
    have h1 : fX7_take 1006 σ5 = some (b01 B6, σ6) := h1
    have h2 : fX11_passes 7 (pn_up τ5 86 (13 + 8 * p + 6) (b01 B5)) = some (b01 B6, τ6) := h2
    have rR : (if b01 B5 = 0 then pn_bi (fX11_passes 7 (pn_up τ5 86 (13 + 8 * p + 6) 0)) fun x21 σ21 => if x21 = 0 then fX11_readPerson_205 (nI (13 + 8 * p + 7)) 0 σ21 else fX11_readPerson_205 (nI (13 + 8 * p + 7)) 1 σ21 else pn_bi (fX11_passes 7 (pn_up τ5 86 (13 + 8 * p + 6) 1)) fun x21 σ21 => if x21 = 0 then fX11_readPerson_205 (nI (13 + 8 * p + 7)) 0 σ21 else fX11_readPerson_205 (nI (13 + 8 * p + 7)) 1 σ21) = some (1, pn_up (pn_up τ6 86 (13 + 8 * p + 7) (b01 B6)) 86 0 (nI (p + 1))) := by
      have e0 : pn_up τ6 86 (13 + 8 * p + 7) (b01 B6) 86 0 = nI p := by
        rw [pn_up_k _ _ _ _ (by omega), h4.1 86 (by omega), pn_up_k _ _ _ _ (by omega), f4.1 86 (by omega), pn_up_k _ _ _ _ (by omega), pn_up_k _ _ _ _ (by omega), pn_up_k _ _ _ _ (by omega), pn_up_k _ _ _ _ (by omega), pn_up_k _ _ _ _ (by omega), pn_up_k _ _ _ _ (by omega), r86, hw.n.1, hp]
      have k205 : (if b01 B6 = 0 then fX11_readPerson_205 (nI (13 + 8 * p + 7)) 0 τ6 else fX11_readPerson_205 (nI (13 + 8 * p + 7)) 1 τ6) = some (1, pn_up (pn_up τ6 86 (13 + 8 * p + 7) (b01 B6)) 86 0 (nI (p + 1))) := by
        unfold fX11_readPerson_205
        rw [ib 7 (by omega), if_pos rfl, if_pos rfl, nI_clamp (by omega)]
        cases B6 with
        | false =>
          have e0 : pn_up τ6 86 (13 + 8 * p + 7) 0 86 0 = nI p := e0
          rw [if_pos (show b01 false = 0 from rfl), e0, nI_1]; rfl
        | true =>
          have e0 : pn_up τ6 86 (13 + 8 * p + 7) 1 86 0 = nI p := e0
          rw [if_neg (show ¬ b01 true = 0 by decide), e0, nI_1]; rfl
      cases B5 with
      | false =>
        have h2 : fX11_passes 7 (pn_up τ5 86 (13 + 8 * p + 6) 0) = some (b01 B6, τ6) := h2
        rw [if_pos (show b01 false = 0 from rfl), h2, bi_some]
        exact k205
      | true =>
        have h2 : fX11_passes 7 (pn_up τ5 86 (13 + 8 * p + 6) 1) = some (b01 B6, τ6) := h2
        rw [if_neg (show ¬ b01 true = 0 by decide), h2, bi_some]
        exact k205
    rw [rR, h1, bi_some, h3.1.2.2.2.1, if_pos rfl]
    have fσ6 : Fr1 σ σ6 := (fσ4.tr f5).tr h5
    have s2 : σ6 8 2 = nI p := by rw [fσ6.1 8 (by omega)]; exact e8
    have s9 : σ6 9 = σ 9 := fσ6.1 9 (by omega)
    rw [c_addP s2 hp8, bi_some]
    generalize hA : pn_ua (pn_up σ6 8 2 (nI (p + 1))) 9 (cpy (σ6 9) nsr (8 * p) 8) = A
    have A2 : A 8 2 = nI (p + 1) := by rw [← hA, pn_ua_a _ _ _ (by omega), pn_up_s]
    have u0 : ∀ z x, z 8 2 = nI (p + 1) → fX8_tell 8 (nI p) 0 x z = some (z 9 (8 * p + 0), pn_up z 9 (8 * p + 0) x) := fun z x hz => c_tell0 (t := 0) hz (by omega) (by omega) (by omega) x
    have u1 : ∀ z x, z 8 2 = nI (p + 1) → fX8_tell 8 (nI p) 1 x z = some (z 9 (8 * p + 1), pn_up z 9 (8 * p + 1) x) := fun z x hz => c_tell0 (t := 1) hz (by omega) (by omega) (by omega) x
    have u2 : ∀ z x, z 8 2 = nI (p + 1) → fX8_tell 8 (nI p) 2 x z = some (z 9 (8 * p + 2), pn_up z 9 (8 * p + 2) x) := fun z x hz => c_tell0 (t := 2) hz (by omega) (by omega) (by omega) x
    have u3 : ∀ z x, z 8 2 = nI (p + 1) → fX8_tell 8 (nI p) 3 x z = some (z 9 (8 * p + 3), pn_up z 9 (8 * p + 3) x) := fun z x hz => c_tell0 (t := 3) hz (by omega) (by omega) (by omega) x
    have u6 : ∀ z x, z 8 2 = nI (p + 1) → fX8_tell 8 (nI p) 6 x z = some (z 9 (8 * p + 6), pn_up z 9 (8 * p + 6) x) := fun z x hz => c_tell0 (t := 6) hz (by omega) (by omega) (by omega) x
    have u7 : ∀ z x, z 8 2 = nI (p + 1) → fX8_tell 8 (nI p) 7 x z = some (z 9 (8 * p + 7), pn_up z 9 (8 * p + 7) x) := fun z x hz => c_tell0 (t := 7) hz (by omega) (by omega) (by omega) x
    have k8 : ∀ (z : pn_S) (j : Nat) (x : Int32), z 8 2 = nI (p + 1) → pn_up z 9 j x 8 2 = nI (p + 1) := fun z j x hz => by rw [pn_up_a _ _ _ _ (by omega)]; exact hz
    have v0 := k8 A (8 * p + 0) x5 A2
    have v1 := k8 _ (8 * p + 1) x6 v0
    have v2 := k8 _ (8 * p + 2) x7 v1
    have v3 := k8 _ (8 * p + 3) x8 v2
    rw [u0 A x5 A2, bi_some, u1 _ x6 v0, bi_some, u2 _ x7 v1, bi_some, u3 _ x8 v2, bi_some]
    unfold fX9_readPerson_200 fX9_readPerson_222
    have rC : (if b01 B5 = 0 then pn_bi (fX8_tell 8 (nI p) 6 0 (pn_up (pn_up (pn_up (pn_up A 9 (8 * p + 0) x5) 9 (8 * p + 1) x6) 9 (8 * p + 2) x7) 9 (8 * p + 3) x8)) (fun x18 σ18 => if b01 B6 = 0 then pn_bi (fX8_tell 8 (nI p) 7 0 σ18) fun x20 σ20 => some ((1 : Int32), σ20) else pn_bi (fX8_tell 8 (nI p) 7 1 σ18) fun x20 σ20 => some ((1 : Int32), σ20)) else pn_bi (fX8_tell 8 (nI p) 6 1 (pn_up (pn_up (pn_up (pn_up A 9 (8 * p + 0) x5) 9 (8 * p + 1) x6) 9 (8 * p + 2) x7) 9 (8 * p + 3) x8)) (fun x18 σ18 => if b01 B6 = 0 then pn_bi (fX8_tell 8 (nI p) 7 0 σ18) fun x20 σ20 => some ((1 : Int32), σ20) else pn_bi (fX8_tell 8 (nI p) 7 1 σ18) fun x20 σ20 => some ((1 : Int32), σ20))) = some (1, pn_up (pn_up (pn_up (pn_up (pn_up (pn_up A 9 (8 * p + 0) x5) 9 (8 * p + 1) x6) 9 (8 * p + 2) x7) 9 (8 * p + 3) x8) 9 (8 * p + 6) (b01 B5)) 9 (8 * p + 7) (b01 B6)) := by
      cases B5 with
      | false =>
        have v6 := k8 _ (8 * p + 6) 0 v3
        rw [if_pos (show b01 false = 0 from rfl), u6 _ 0 v3, bi_some]
        cases B6 with
        | false => rw [if_pos (show b01 false = 0 from rfl), u7 _ 0 v6, bi_some]; rfl
        | true => rw [if_neg (show ¬ b01 true = 0 by decide), u7 _ 1 v6, bi_some]; rfl
      | true =>
        have v6 := k8 _ (8 * p + 6) 1 v3
        rw [if_neg (show ¬ b01 true = 0 by decide), u6 _ 1 v3, bi_some]
        cases B6 with
        | false => rw [if_pos (show b01 false = 0 from rfl), u7 _ 0 v6, bi_some]; rfl
        | true => rw [if_neg (show ¬ b01 true = 0 by decide), u7 _ 1 v6, bi_some]; rfl
    rw [rC]
    have rowE : pn_up (pn_up τ6 86 (13 + 8 * p + 7) (b01 B6)) 86 0 (nI (p + 1)) 86 = upd (upd (upd (upd (upd (upd (upd (upd (upd (τ 86) (13 + 8 * p + 0) x5) (13 + 8 * p + 1) x6) (13 + 8 * p + 2) x7) (13 + 8 * p + 3) x8) (13 + 8 * p + 4) 0) (13 + 8 * p + 5) (-1)) (13 + 8 * p + 6) (b01 B5)) (13 + 8 * p + 7) (b01 B6)) 0 (nI (p + 1)) := by
      rw [pn_up_row, pn_up_row, h4.1 86 (by omega), pn_up_row, f4.1 86 (by omega), pn_up_row, pn_up_row, pn_up_row, pn_up_row, pn_up_row, pn_up_row, r86]
    have jsF : JS c w n T P m (pn_up (pn_up (pn_up (pn_up (pn_up (pn_up A 9 (8 * p + 0) x5) 9 (8 * p + 1) x6) 9 (8 * p + 2) x7) 9 (8 * p + 3) x8) 9 (8 * p + 6) (b01 B5)) 9 (8 * p + 7) (b01 B6)) (pn_up (pn_up τ6 86 (13 + 8 * p + 7) (b01 B6)) 86 0 (nI (p + 1))) k6 i6 := by
      have jA : JS c w n T P m A τ6 k6 i6 := by rw [← hA]; exact h3.v (by rw [pn_ua_a _ _ _ (by omega), pn_up_a _ _ _ _ (by omega)]) (by rw [pn_ua_a _ _ _ (by omega), pn_up_a _ _ _ _ (by omega)]) (by rw [pn_ua_a _ _ _ (by omega), pn_up_a _ _ _ _ (by omega)]) rfl rfl rfl
      exact js_86 (js_86 (js_9 (js_9 (js_9 (js_9 (js_9 (js_9 jA (Or.inr rfl)) (Or.inr rfl)) (Or.inr rfl)) (Or.inr rfl)) (Or.inr rfl)) (Or.inr rfl)))
    have A8 : ∀ k, k ≠ 2 → A 8 k = σ 8 k := fun k hk => by rw [← hA, pn_ua_a _ _ _ (by omega), pn_up_k _ _ _ _ hk, fσ6.1 8 (by omega)]
    have A9 : ∀ j, A 9 j = if 8 * p ≤ j ∧ j < 8 * p + 8 then nsr (j - 8 * p) else σ 9 j := fun j => by rw [← hA, pn_ua_s, s9]; rfl
    have Ai : ∀ i, i ≠ 1 → i ≠ 8 → i ≠ 9 → A i = σ i := fun i q1 q2 q3 => by rw [← hA, pn_ua_a _ _ _ q3, pn_up_a _ _ _ _ q2, fσ6.1 i q1]
    have hV : ∀ k, k ≠ 0 → (k < 13 + 8 * p ∨ 13 + 8 * p + 8 ≤ k) → upd (upd (upd (upd (upd (upd (upd (upd (upd (τ 86) (13 + 8 * p + 0) x5) (13 + 8 * p + 1) x6) (13 + 8 * p + 2) x7) (13 + 8 * p + 3) x8) (13 + 8 * p + 4) 0) (13 + 8 * p + 5) (-1)) (13 + 8 * p + 6) (b01 B5)) (13 + 8 * p + 7) (b01 B6)) 0 (nI (p + 1)) k = τ 86 k := fun k q1 q2 => by
      rw [pk_un q1, pk_un (by omega), pk_un (by omega), pk_un (by omega), pk_un (by omega), pk_un (by omega), pk_un (by omega), pk_un (by omega), pk_un (by omega)]
    have hT : ∀ t, t < 8 → upd (upd (upd (upd (upd (upd (upd (upd (upd (τ 86) (13 + 8 * p + 0) x5) (13 + 8 * p + 1) x6) (13 + 8 * p + 2) x7) (13 + 8 * p + 3) x8) (13 + 8 * p + 4) 0) (13 + 8 * p + 5) (-1)) (13 + 8 * p + 6) (b01 B5)) (13 + 8 * p + 7) (b01 B6)) 0 (nI (p + 1)) (13 + 8 * p + t) = (if t = 0 then x5 else if t = 1 then x6 else if t = 2 then x7 else if t = 3 then x8 else if t = 4 then 0 else if t = 5 then -1 else if t = 6 then b01 B5 else b01 B6) := fun t ht => by
      match t, ht with
      | 0, _ => rw [pk_un (by omega), pk_un (by omega), pk_un (by omega), pk_un (by omega), pk_un (by omega), pk_un (by omega), pk_un (by omega), pk_un (by omega), pk_us]; rfl
      | 1, _ => rw [pk_un (by omega), pk_un (by omega), pk_un (by omega), pk_un (by omega), pk_un (by omega), pk_un (by omega), pk_un (by omega), pk_us]; rfl
      | 2, _ => rw [pk_un (by omega), pk_un (by omega), pk_un (by omega), pk_un (by omega), pk_un (by omega), pk_un (by omega), pk_us]; rfl
      | 3, _ => rw [pk_un (by omega), pk_un (by omega), pk_un (by omega), pk_un (by omega), pk_un (by omega), pk_us]; rfl
      | 4, _ => rw [pk_un (by omega), pk_un (by omega), pk_un (by omega), pk_un (by omega), pk_us]; rfl
      | 5, _ => rw [pk_un (by omega), pk_un (by omega), pk_un (by omega), pk_us]; rfl
      | 6, _ => rw [pk_un (by omega), pk_un (by omega), pk_us]; rfl
      | 7, _ => rw [pk_un (by omega), pk_us]; rfl
    have hN : ∀ t, t < 8 → (pn_up (pn_up (pn_up (pn_up (pn_up (pn_up A 9 (8 * p + 0) x5) 9 (8 * p + 1) x6) 9 (8 * p + 2) x7) 9 (8 * p + 3) x8) 9 (8 * p + 6) (b01 B5)) 9 (8 * p + 7) (b01 B6)) 9 (8 * p + t) = (if t = 0 then x5 else if t = 1 then x6 else if t = 2 then x7 else if t = 3 then x8 else if t = 4 then 0 else if t = 5 then -1 else if t = 6 then b01 B5 else b01 B6) := fun t ht => by
      match t, ht with
      | 0, _ => rw [pn_up_k _ _ _ _ (by omega), pn_up_k _ _ _ _ (by omega), pn_up_k _ _ _ _ (by omega), pn_up_k _ _ _ _ (by omega), pn_up_k _ _ _ _ (by omega), pn_up_s]; rfl
      | 1, _ => rw [pn_up_k _ _ _ _ (by omega), pn_up_k _ _ _ _ (by omega), pn_up_k _ _ _ _ (by omega), pn_up_k _ _ _ _ (by omega), pn_up_s]; rfl
      | 2, _ => rw [pn_up_k _ _ _ _ (by omega), pn_up_k _ _ _ _ (by omega), pn_up_k _ _ _ _ (by omega), pn_up_s]; rfl
      | 3, _ => rw [pn_up_k _ _ _ _ (by omega), pn_up_k _ _ _ _ (by omega), pn_up_s]; rfl
      | 4, _ => rw [pn_up_k _ _ _ _ (by omega), pn_up_k _ _ _ _ (by omega), pn_up_k _ _ _ _ (by omega), pn_up_k _ _ _ _ (by omega), pn_up_k _ _ _ _ (by omega), pn_up_k _ _ _ _ (by omega), A9, if_pos (by omega), show 8 * p + 4 - 8 * p = 4 by omega]; rfl
      | 5, _ => rw [pn_up_k _ _ _ _ (by omega), pn_up_k _ _ _ _ (by omega), pn_up_k _ _ _ _ (by omega), pn_up_k _ _ _ _ (by omega), pn_up_k _ _ _ _ (by omega), pn_up_k _ _ _ _ (by omega), A9, if_pos (by omega), show 8 * p + 5 - 8 * p = 5 by omega]; rfl
      | 6, _ => rw [pn_up_k _ _ _ _ (by omega), pn_up_s]; rfl
      | 7, _ => rw [pn_up_s]; rfl
    have h0' : upd (upd (upd (upd (upd (upd (upd (upd (upd (τ 86) (13 + 8 * p + 0) x5) (13 + 8 * p + 1) x6) (13 + 8 * p + 2) x7) (13 + 8 * p + 3) x8) (13 + 8 * p + 4) 0) (13 + 8 * p + 5) (-1)) (13 + 8 * p + 6) (b01 B5)) (13 + 8 * p + 7) (b01 B6)) 0 (nI (p + 1)) 0 = nI (p + 1) := pk_us
    generalize hF : pn_up (pn_up (pn_up (pn_up (pn_up (pn_up A 9 (8 * p + 0) x5) 9 (8 * p + 1) x6) 9 (8 * p + 2) x7) 9 (8 * p + 3) x8) 9 (8 * p + 6) (b01 B5)) 9 (8 * p + 7) (b01 B6) = F at jsF hN ⊢
    have F9 : ∀ i, i ≠ 9 → F i = A i := fun i hi => by rw [← hF, pn_up_a _ _ _ _ hi, pn_up_a _ _ _ _ hi, pn_up_a _ _ _ _ hi, pn_up_a _ _ _ _ hi, pn_up_a _ _ _ _ hi, pn_up_a _ _ _ _ hi]
    have F9j : ∀ j, j < 8 * p → F 9 j = σ 9 j := fun j hj => by rw [← hF, pn_up_k _ _ _ _ (by omega), pn_up_k _ _ _ _ (by omega), pn_up_k _ _ _ _ (by omega), pn_up_k _ _ _ _ (by omega), pn_up_k _ _ _ _ (by omega), pn_up_k _ _ _ _ (by omega), A9, if_neg (by omega)]
    have r01 : ∀ B : Bool, rg (b01 B) 0 1 := fun B => by cases B <;> exact ⟨by decide, by decide⟩
    generalize hG : upd (upd (upd (upd (upd (upd (upd (upd (upd (τ 86) (13 + 8 * p + 0) x5) (13 + 8 * p + 1) x6) (13 + 8 * p + 2) x7) (13 + 8 * p + 3) x8) (13 + 8 * p + 4) 0) (13 + 8 * p + 5) (-1)) (13 + 8 * p + 6) (b01 B5)) (13 + 8 * p + 7) (b01 B6)) 0 (nI (p + 1)) = G at rowE hV hT h0'
    have cv := cv_add (σ' := F) (V' := G) hC hp hp8 h0' (fun k hk => by rw [F9 8 (by omega)]; exact A8 k hk) (by rw [F9 8 (by omega)]; exact A2) F9j (by rw [F9 10 (by omega)]; exact Ai 10 (by omega) (by omega) (by omega)) (fun t ht => by rw [hN t ht, hT t ht]) hV
    have vw := vw_add (V' := G) hw hp hp8 h0' hV ⟨by show rg (G (13 + 8 * p + 0)) _ _; rw [hT 0 (by omega)]; exact ⟨a3, a4⟩, by show rg (G (13 + 8 * p + 1)) _ _; rw [hT 1 (by omega)]; exact ⟨b3, b4⟩, by show rg (G (13 + 8 * p + 2)) _ _; rw [hT 2 (by omega)]; exact ⟨d3, d4⟩, by show rg (G (13 + 8 * p + 3)) _ _; rw [hT 3 (by omega)]; exact ⟨e3, by show x8.toInt ≤ 9999; omega⟩, by show rg (G (13 + 8 * p + 4)) _ _; rw [hT 4 (by omega)]; exact (⟨by decide, by decide⟩ : rg 0 0 9), by show rg (G (13 + 8 * p + 5)) _ _; rw [hT 5 (by omega)]; exact (⟨by decide, by show (-1 : Int) ≤ _; omega⟩ : rg (-1) (-1) p), by show rg (G (13 + 8 * p + 6)) _ _; rw [hT 6 (by omega)]; exact r01 B5, by show rg (G (13 + 8 * p + 7)) _ _; rw [hT 7 (by omega)]; exact r01 B6⟩
    refine Or.inl ⟨F, _, k6, i6, rfl, rfl, jsF, by omega, by rw [rowE]; exact cv.1, by rw [rowE]; exact vw, ⟨fun i q1 q2 q3 q4 => by rw [F9 i q3]; exact Ai i q1 q2 q3, fun k q1 q2 => by rw [F9 1 (by omega), ← hA, pn_ua_a _ _ _ (by omega), pn_up_a _ _ _ _ (by omega)]; exact fσ6.2 k q1 q2⟩, ?_⟩
    refine ⟨fun i q1 q2 => ?_, fun k q1 q2 => ?_, ?_, by rw [rowE]; exact hV 1 (by omega) (by omega)⟩
    · rw [pn_up_a _ _ _ _ q2, pn_up_a _ _ _ _ q2, h4.1 i q1, pn_up_a _ _ _ _ q2, f4.1 i q1, pn_up_a _ _ _ _ q2, pn_up_a _ _ _ _ q2, pn_up_a _ _ _ _ q2, pn_up_a _ _ _ _ q2, pn_up_a _ _ _ _ q2, pn_up_a _ _ _ _ q2, fτ4.1 i q1]
    · rw [pn_up_a _ _ _ _ (by omega), pn_up_a _ _ _ _ (by omega), h4.2 k q1 q2, pn_up_a _ _ _ _ (by omega), f4.2 k q1 q2, pn_up_a _ _ _ _ (by omega), pn_up_a _ _ _ _ (by omega), pn_up_a _ _ _ _ (by omega), pn_up_a _ _ _ _ (by omega), pn_up_a _ _ _ _ (by omega), pn_up_a _ _ _ _ (by omega), fτ4.2 k q1 q2]
    · rw [rowE]
      exact fun k hk => hV k (by omega) (by omega)
end
