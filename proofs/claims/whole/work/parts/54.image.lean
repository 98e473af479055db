/-! PURE: undoing, the image -/
theorem up96 (σ : pn_S) : pn_up σ 96 0 (σ 96 0) = σ := by
  funext i j
  unfold pn_up
  by_cases q : i = 96
  · subst q
    by_cases q2 : j = 0
    · subst q2; simp
    · simp [q2]
  · simp [q]
theorem m11 : ∀ x, x < 12 → ((nI x + 12) - 1) - ((nI x + 12) - 1) / 12 * 12 = nI ((x + 11) % 12) := by decide +kernel
theorem r_und {τ : pn_S} {r : Nat} (h2 : r < 12) (h7 : τ 85 7 = nI r) : fX11_undo_26 5000 0 τ = some (1, pn_ua τ 86 (cpy (τ 86) (fun k => τ 90 (317 * r + k)) 0 317)) := by
  obtain ⟨s, g1, g2⟩ := lpE (n := 317) (F := fun f k s => fX11_undo_26 f (nI k) s) (out := fun s => some (1, s)) (fun k s => s = pn_ua τ 86 (cpy (τ 86) (fun k => τ 90 (317 * r + k)) 0 k))
    (fun f s _ => by rw [fX11_undo_26, if_pos (show (317 : Int32) ≤ nI 317 by decide)])
    (fun f k s hk hs => by
      refine ⟨_, ?_, cpy_s τ 86 0 k (fun k => τ 90 (317 * r + k))⟩
      have e7 : s 85 7 = nI r := by rw [hs, pn_ua_a _ _ _ (by omega)]; exact h7
      have e90 : s 90 = τ 90 := by rw [hs, pn_ua_a _ _ _ (by omega)]
      have ei : (317 : Int32) * nI r + nI k = nI (317 * r + k) := by rw [q_lit 317, pk_mul, nI_add]
      rw [fX11_undo_26, if_neg (show ¬ (317 : Int32) ≤ nI k from nI_ge (b := 317) hk (by omega)), e7, ei, q_ib (by omega) (by omega), if_pos rfl, q_ib (by omega) (by omega), if_pos rfl, nI_1, nI_clamp (by omega), nI_clamp (by omega), e90, hs, Nat.zero_add]) 317 0 5000 τ (by omega) (by omega) (cpy_0 _ _ _ _).symm
  refine g1.trans ?_
  rw [g2]
theorem ag_undo : AgI fX10_undo fX11_undo := fun σ h Λ hI => by
  obtain ⟨m, x, W, p1, p2, p3⟩ := pst_to hI.2.2.2.2.2.2.1
  obtain ⟨a1, a2, a3, a4, a5⟩ := id p1
  by_cases q : m = 0
  · subst q
    refine ⟨0, σ, pn_up σ 85 0 0, h, Λ, ?_, ?_, hI.core Core_thrown⟩
    · unfold fX10_undo fX5_restore fX5_restore_13
      rw [a4, m11 x a2, q_ib (by omega) (by omega), if_pos rfl, a3, if_pos (show nI 0 ≤ 0 by decide), bi_some, if_pos (by decide)]
    · unfold fX11_undo
      rw [pn_up_k _ _ _ _ (by omega), p2.1, if_pos (show nI 0 = 0 from rfl)]
  · have hz : ¬ nI m = 0 := fun z => q ((nI_eq (b := 0) (by omega) (by omega)).mp z)
    have hzl : ¬ nI m ≤ 0 := fun z => by
      have z9 := Int32.le_iff_toInt_le.mp z
      rw [nI_toInt (by omega), show (0 : Int32).toInt = 0 from rfl] at z9
      omega
    have c0 := a5 0 (by omega)
    have w0 := (p3 0 (by omega)).1
    have ex : (x + 11 - 0) % 12 = (x + 11) % 12 := rfl
    rw [ex] at c0
    obtain ⟨c1, c2, c3⟩ := c_copy (v := 5) c0 w0 (by omega)
    have g41 : cpV σ 5 (43 + 3 * ((x + 11) % 12)) 41 = σ 41 := c3 41 (by omega)
    have e1 : fX10_undo σ = some (1, pn_up (pn_up (cpV σ 5 (43 + 3 * ((x + 11) % 12))) 41 2 (nI ((x + 11) % 12))) 41 1 (nI (m - 1))) := by
      unfold fX10_undo fX5_restore fX5_restore_13
      rw [a4, m11 x a2, q_ib (by omega) (by omega), if_pos rfl, a3, if_neg hzl, nI_clamp (by omega), c1, Option.bind_some, bi_some, if_pos (by decide), pn_up_k _ _ _ _ (by omega), g41, a3, prd_nI (by omega)]
    have fr1 : Fr (fun i => i = 5 ∨ i = 6 ∨ i = 7 ∨ i = 41 ∨ (43 ≤ i ∧ i ≤ 78)) σ (pn_up (pn_up (cpV σ 5 (43 + 3 * ((x + 11) % 12))) 41 2 (nI ((x + 11) % 12))) 41 1 (nI (m - 1))) := fun i hi => by
      rw [pn_up_a _ _ _ _ (by omega), pn_up_a _ _ _ _ (by omega), c3 i (by omega)]
    generalize hσ1 : pn_up (pn_up (cpV σ 5 (43 + 3 * ((x + 11) % 12))) 41 2 (nI ((x + 11) % 12))) 41 1 (nI (m - 1)) = σ1 at e1 fr1
    have e41 : σ1 41 1 = nI (m - 1) ∧ σ1 41 2 = nI ((x + 11) % 12) := by
      rw [← hσ1]
      exact ⟨pn_up_s _ _ _ _, by rw [pn_up_k _ _ _ _ (by omega), pn_up_s]⟩
    have ek : ∀ i, i ≠ 41 → σ1 i = cpV σ 5 (43 + 3 * ((x + 11) % 12)) i := fun i hi => by rw [← hσ1, pn_up_a _ _ _ _ hi, pn_up_a _ _ _ _ hi]
    have s1 : ∀ i, 85 ≤ i → σ1 i = σ i := fun i hi => fr1 i (by omega)
    have r7 : pn_up (pn_up σ1 85 0 0) 85 7 (nI m - 1) 85 7 = nI (m - 1) := by rw [pn_up_s, prd_nI (by omega)]
    have e2 : fX11_undo σ1 = some (1, pn_ua (pn_up (pn_up σ1 85 0 0) 85 7 (nI m - 1)) 86 (cpy (σ 86) (fun k => σ 90 (317 * (m - 1) + k)) 0 317)) := by
      unfold fX11_undo
      have e7 : pn_up σ1 85 0 0 85 7 = nI m := by rw [pn_up_k _ _ _ _ (by omega), s1 85 (by omega)]; exact p2.1
      rw [e7, if_neg hz, r_und (r := m - 1) (by omega) r7, pn_up_a _ _ _ _ (by omega), pn_up_a _ _ _ _ (by omega), s1 86 (by omega)]
      have e90 : pn_up (pn_up σ1 85 0 0) 85 7 (nI m - 1) 90 = σ 90 := by rw [pn_up_a _ _ _ _ (by omega), pn_up_a _ _ _ _ (by omega), s1 90 (by omega)]
      rw [e90]
    have eV : ∀ k, k < 317 → cpy (σ 86) (fun k => σ 90 (317 * (m - 1) + k)) 0 317 k = W 0 k := fun k hk => by
      unfold cpy
      rw [if_pos (by omega), Nat.sub_zero]
      exact p2.2 0 (by omega) k hk
    refine ⟨1, σ1, _, h, Λ, e1, e2, ?_⟩
    have := act_fin (y := σ1 96 0) (σ1 := σ1) (m := m - 1) (x := (x + 11) % 12) (W := fun j => W (j + 1)) (V' := cpy (σ 86) (fun k => σ 90 (317 * (m - 1) + k)) 0 317) (τ2 := pn_ua (pn_up (pn_up σ1 85 0 0) 85 7 (nI m - 1)) 86 (cpy (σ 86) (fun k => σ 90 (317 * (m - 1) + k)) 0 317)) hI (FrA_fr fr1)
      (cv_V (cv_fr c2 (ek 5 (by omega)) (ek 6 (by omega)) (ek 7 (by omega))) w0.n.2 w0.l.2 fun k hk _ => eV k hk) (vw_V w0 fun k hk _ => eV k hk)
      ⟨by omega, by omega, e41.1, e41.2, fun j hj => by
        have := a5 (j + 1) (by omega)
        rw [show ((x + 11) % 12 + 11 - j) % 12 = (x + 11 - (j + 1)) % 12 by omega]
        exact cv_fr this (by rw [ek _ (by omega), c3 _ (by omega)]) (by rw [ek _ (by omega), c3 _ (by omega)]) (by rw [ek _ (by omega), c3 _ (by omega)])⟩
      (by
        rw [up96]
        exact ⟨fun i q1 q2 _ _ _ _ _ => by rw [pn_ua_a _ _ _ q2, pn_up_a _ _ _ _ q1], fun k q1 _ => by rw [pn_ua_a _ _ _ (by omega), pn_up_k _ _ _ _ q1]⟩) (pn_ua_s _ _ _) (fun k hk => by
        rcases hk with rfl | hk
        · rw [eV 2 (by omega)]; exact (p3 0 (by omega)).2
        · unfold cpy; rw [if_neg (by omega)])
      ⟨by rw [pn_ua_a _ _ _ (by omega)]; exact r7, fun j hj k hk => by
        rw [pn_ua_a _ _ _ (by omega), pn_up_a _ _ _ _ (by omega), pn_up_a _ _ _ _ (by omega), s1 90 (by omega), show m - 1 - 1 - j = m - 1 - (j + 1) by omega]; exact p2.2 (j + 1) (by omega) k hk⟩ (fun j hj => p3 (j + 1) (by omega))
    exact this.2.2
/-! laws copied -/
def cp1 (A : pn_S) (r s n : Nat) : pn_S := pn_ua A r (va_cpy (A s) (A r) 0 0 n)
theorem cp1_in {A : pn_S} {r s n j : Nat} (h : j < n) : cp1 A r s n r j = A s j := by
  unfold cp1
  rw [pn_ua_s, pk_cpy_in (by omega) (by omega), Nat.zero_add, Nat.sub_zero]
theorem cp1_a {A : pn_S} {r s n i : Nat} (h : i ≠ r) : cp1 A r s n i = A i := pn_ua_a _ _ _ h
def lcp (σ : pn_S) (w u : Nat) : pn_S := cp1 (cp1 (cp1 (cp1 σ (w + 1) (u + 1) 12) (w + 2) (u + 2) 12) (w + 3) (u + 3) 13) (w + 4) (u + 4) 400
def lcp2 (σ : pn_S) (w u : Nat) : pn_S := pn_up (pn_up (lcp σ w u) w 6 (lcp σ w u u 6)) w 7 (pn_up (lcp σ w u) w 6 (lcp σ w u u 6) u 7)
theorem c_lcopy {σ : pn_S} {w u : Nat} {h : Bool} {Λ : pn_La} (hC : CL σ u h Λ) (hL : LW Λ) (hwu : w + 7 ≤ u ∨ u + 7 ≤ w) : fX2_copy w u σ = some (lcp2 σ w u) ∧ CL (lcp2 σ w u) w h Λ ∧ Fr (fun i => w ≤ i ∧ i ≤ w + 4) σ (lcp2 σ w u) ∧ ∀ k, k ≠ 6 → k ≠ 7 → lcp2 σ w u w k = σ w k := by
  have e1 : ∀ j, j < 12 → lcp2 σ w u (w + 1) j = σ (u + 1) j := fun j hj => by
    unfold lcp2 lcp
    rw [pn_up_a _ _ _ _ (by omega), pn_up_a _ _ _ _ (by omega), cp1_a (by omega), cp1_a (by omega), cp1_a (by omega), cp1_in hj]
  have e2 : ∀ j, j < 12 → lcp2 σ w u (w + 2) j = σ (u + 2) j := fun j hj => by
    unfold lcp2 lcp
    rw [pn_up_a _ _ _ _ (by omega), pn_up_a _ _ _ _ (by omega), cp1_a (by omega), cp1_a (by omega), cp1_in hj, cp1_a (by omega)]
  have e3 : ∀ j, j < 13 → lcp2 σ w u (w + 3) j = σ (u + 3) j := fun j hj => by
    unfold lcp2 lcp
    rw [pn_up_a _ _ _ _ (by omega), pn_up_a _ _ _ _ (by omega), cp1_a (by omega), cp1_in hj, cp1_a (by omega), cp1_a (by omega)]
  have e4 : ∀ j, j < 400 → lcp2 σ w u (w + 4) j = σ (u + 4) j := fun j hj => by
    unfold lcp2 lcp
    rw [pn_up_a _ _ _ _ (by omega), pn_up_a _ _ _ _ (by omega), cp1_in hj, cp1_a (by omega), cp1_a (by omega), cp1_a (by omega)]
  have lu : ∀ i, i < w + 1 ∨ w + 4 < i → lcp σ w u i = σ i := fun i hi => by
    unfold lcp
    rw [cp1_a (by omega), cp1_a (by omega), cp1_a (by omega), cp1_a (by omega)]
  refine ⟨rfl, ⟨?_, hC.2.1, fun i hi => ?_, fun j hj => ?_⟩, fun i hi => ?_, fun k h6 h7 => ?_⟩
  · unfold lcp2
    rw [pn_up_k _ _ _ _ (by omega), pn_up_s, lu u (by omega)]
    exact hC.1
  · have := hL.1
    rw [e1 i (by omega), e2 i (by omega), e3 i (by omega), e3 (i + 1) (by omega)]
    exact hC.2.2.1 i hi
  · have := hL.2.2.1
    rw [e4 j (by omega)]
    exact hC.2.2.2 j hj
  · unfold lcp2
    rw [pn_up_a _ _ _ _ (by omega), pn_up_a _ _ _ _ (by omega), lu i (by omega)]
  · unfold lcp2
    rw [pn_up_k _ _ _ _ h7, pn_up_k _ _ _ _ h6, lu w (by omega)]
theorem rl_V2 {V U : pn_V} {h : Bool} {Λ : pn_La} (hR : RLa V h Λ) (hL : LW Λ) (he : ∀ k, k = 2 ∨ (317 ≤ k ∧ k < 1166) → U k = V k) : RLa U h Λ := by
  obtain ⟨r1, r2, r3, r4, r5⟩ := hR
  have l1 := hL.1
  have l2 := hL.2.2.1
  refine ⟨by rw [he 2 (Or.inl rfl)]; exact r1, r2, fun q => by rw [he 317 (Or.inr (by omega))]; exact r3 q, fun i hi => ?_, fun j hj => ?_⟩
  · rw [he _ (Or.inr (by omega)), he _ (Or.inr (by omega)), he _ (Or.inr (by omega)), he _ (Or.inr (by omega))]; exact r4 i hi
  · rw [he _ (Or.inr (by omega)), he _ (Or.inr (by omega))]; exact r5 j hj
theorem r_img {τ : pn_S} : fX11_image_7 5000 0 τ = some (pn_up (pn_ua τ 87 (cpy (τ 87) (τ 86) 0 1166)) 85 6 1) := by
  obtain ⟨s, g1, g2⟩ := lpE (n := 1166) (F := fun f k s => fX11_image_7 f (nI k) s) (out := fun s => some (pn_up s 85 6 1)) (fun k s => s = pn_ua τ 87 (cpy (τ 87) (τ 86) 0 k))
    (fun f s _ => by rw [fX11_image_7, if_pos (show (1166 : Int32) ≤ nI 1166 by decide)])
    (fun f k s hk hs => by
      refine ⟨_, ?_, cpy_s τ 87 0 k (τ 86)⟩
      have e86 : s 86 = τ 86 := by rw [hs, pn_ua_a _ _ _ (by omega)]
      rw [fX11_image_7, if_neg (show ¬ (1166 : Int32) ≤ nI k from nI_ge (b := 1166) hk (by omega)), q_ib (by omega) (by omega), if_pos rfl, q_ib (by omega) (by omega), if_pos rfl, nI_1, nI_clamp (by omega), e86, hs, Nat.zero_add]) 1166 0 5000 τ (by omega) (by omega) (cpy_0 _ _ _ _).symm
  refine g1.trans ?_
  rw [g2]
theorem r_bck {τ : pn_S} : fX11_back_16 5000 0 τ = some (1, pn_up (pn_ua τ 86 (cpy (τ 86) (τ 87) 0 1166)) 85 7 0) := by
  obtain ⟨s, g1, g2⟩ := lpE (n := 1166) (F := fun f k s => fX11_back_16 f (nI k) s) (out := fun s => some (1, pn_up s 85 7 0)) (fun k s => s = pn_ua τ 86 (cpy (τ 86) (τ 87) 0 k))
    (fun f s _ => by rw [fX11_back_16, if_pos (show (1166 : Int32) ≤ nI 1166 by decide)])
    (fun f k s hk hs => by
      refine ⟨_, ?_, cpy_s τ 86 0 k (τ 87)⟩
      have e87 : s 87 = τ 87 := by rw [hs, pn_ua_a _ _ _ (by omega)]
      rw [fX11_back_16, if_neg (show ¬ (1166 : Int32) ≤ nI k from nI_ge (b := 1166) hk (by omega)), q_ib (by omega) (by omega), if_pos rfl, q_ib (by omega) (by omega), if_pos rfl, nI_1, nI_clamp (by omega), e87, hs, Nat.zero_add]) 1166 0 5000 τ (by omega) (by omega) (cpy_0 _ _ _ _).symm
  refine g1.trans ?_
  rw [g2]
theorem cpy_lo {old src : Nat → Int32} {k n : Nat} (h : k < n) : cpy old src 0 n k = src k := by unfold cpy; rw [if_pos (by omega), Nat.sub_zero]
def AgV (fc fr : pn_S → Option pn_S) : Prop := ∀ (σ : pn_S) (h : Bool) (Λ : pn_La), Inv σ h Λ → ∃ (σ1 σ2 : pn_S) (h' : Bool) (Λ' : pn_La), fc σ = some σ1 ∧ fr σ1 = some σ2 ∧ Inv σ2 h' Λ'
theorem ag_image : AgV fX10_image fX11_image := fun σ h Λ hI => by
  obtain ⟨i1, i2, i3, i4, i5, ⟨n, t1, t2, t3, t4⟩, i7, ⟨g1, g2, g3⟩, i9⟩ := id hI
  obtain ⟨m, x, W, p1, p2, p3⟩ := pst_to i7
  obtain ⟨c1, c2, c3⟩ := c_copy (v := 11) i1 i2 (by omega)
  have l14 : CL (cpV σ 11 5) 14 h Λ := cl_fr i3 (by rw [c3 14 (by omega)]) (c3 15 (by omega)) (c3 16 (by omega)) (c3 17 (by omega)) (c3 18 (by omega))
  obtain ⟨d1, d2, d3, d4⟩ := c_lcopy (w := 28) l14 i5 (by omega)
  have e1 : fX10_image σ = some (pn_up (lcp2 (cpV σ 11 5) 28 14) 0 14 1) := by
    unfold fX10_image
    rw [c1, Option.bind_some, d1, Option.bind_some]
  have s1 : ∀ i, i ≠ 0 → i ≠ 11 → i ≠ 12 → i ≠ 13 → (i < 28 ∨ 32 < i) → pn_up (lcp2 (cpV σ 11 5) 28 14) 0 14 1 i = σ i := fun i q1 q2 q3 q4 q5 => by rw [pn_up_a _ _ _ _ q1, d3 i (by omega), c3 i (by omega)]
  have s0 : ∀ k, k ≠ 14 → pn_up (lcp2 (cpV σ 11 5) 28 14) 0 14 1 0 k = σ 0 k := fun k hk => by rw [pn_up_k _ _ _ _ hk, d3 0 (by omega), c3 0 (by omega)]
  have s14 : pn_up (lcp2 (cpV σ 11 5) 28 14) 0 14 1 0 14 = 1 := pn_up_s _ _ _ _
  have s11 : CV (pn_up (lcp2 (cpV σ 11 5) 28 14) 0 14 1) 11 (σ 86) := cv_fr c2 (by rw [pn_up_a _ _ _ _ (by omega), d3 _ (by omega)]) (by rw [pn_up_a _ _ _ _ (by omega), d3 _ (by omega)]) (by rw [pn_up_a _ _ _ _ (by omega), d3 _ (by omega)])
  have s28 : CL (pn_up (lcp2 (cpV σ 11 5) 28 14) 0 14 1) 28 h Λ := cl_fr d2 (by rw [pn_up_a _ _ _ _ (by omega)]) (pn_up_a _ _ _ _ (by omega)) (pn_up_a _ _ _ _ (by omega)) (pn_up_a _ _ _ _ (by omega)) (pn_up_a _ _ _ _ (by omega))
  generalize pn_up (lcp2 (cpV σ 11 5) 28 14) 0 14 1 = σ1 at e1 s1 s0 s14 s11 s28
  have e2 : fX11_image σ1 = some (pn_up (pn_ua (pn_up σ1 85 0 0) 87 (cpy (σ 87) (σ 86) 0 1166)) 85 6 1) := by
    unfold fX11_image
    rw [r_img, pn_up_a _ _ _ _ (by omega), pn_up_a _ _ _ _ (by omega), s1 87 (by omega) (by omega) (by omega) (by omega) (by omega), s1 86 (by omega) (by omega) (by omega) (by omega) (by omega)]
  have u : ∀ i, i ≠ 85 → i ≠ 87 → pn_up (pn_ua (pn_up σ1 85 0 0) 87 (cpy (σ 87) (σ 86) 0 1166)) 85 6 1 i = σ1 i := fun i q1 q2 => by rw [pn_up_a _ _ _ _ q1, pn_ua_a _ _ _ q2, pn_up_a _ _ _ _ q1]
  have u87 : pn_up (pn_ua (pn_up σ1 85 0 0) 87 (cpy (σ 87) (σ 86) 0 1166)) 85 6 1 87 = cpy (σ 87) (σ 86) 0 1166 := by rw [pn_up_a _ _ _ _ (by omega), pn_ua_s]
  have u85 : ∀ k, k ≠ 0 → k ≠ 6 → pn_up (pn_ua (pn_up σ1 85 0 0) 87 (cpy (σ 87) (σ 86) 0 1166)) 85 6 1 85 k = σ 85 k := fun k q1 q2 => by rw [pn_up_k _ _ _ _ q2, pn_ua_a _ _ _ (by omega), pn_up_k _ _ _ _ q1, s1 85 (by omega) (by omega) (by omega) (by omega) (by omega)]
  have u6 : pn_up (pn_ua (pn_up σ1 85 0 0) 87 (cpy (σ 87) (σ 86) 0 1166)) 85 6 1 85 6 = 1 := pn_up_s _ _ _ _
  refine ⟨σ1, _, h, Λ, e1, e2, ?_⟩
  generalize pn_up (pn_ua (pn_up σ1 85 0 0) 87 (cpy (σ 87) (σ 86) 0 1166)) 85 6 1 = σ2 at u u87 u85 u6
  have v : ∀ i, i ≠ 0 → i ≠ 11 → i ≠ 12 → i ≠ 13 → (i < 28 ∨ 32 < i) → i ≠ 85 → i ≠ 87 → σ2 i = σ i := fun i q1 q2 q3 q4 q5 q6 q7 => (u i q6 q7).trans (s1 i q1 q2 q3 q4 q5)
  have v86 := v 86 (by omega) (by omega) (by omega) (by omega) (by omega) (by omega) (by omega)
  unfold Inv
  rw [v86]
  refine ⟨cv_fr i1 (v 5 (by omega) (by omega) (by omega) (by omega) (by omega) (by omega) (by omega)) (v 6 (by omega) (by omega) (by omega) (by omega) (by omega) (by omega) (by omega)) (v 7 (by omega) (by omega) (by omega) (by omega) (by omega) (by omega) (by omega)), i2, cl_fr i3 (by rw [v 14 (by omega) (by omega) (by omega) (by omega) (by omega) (by omega) (by omega)]) (v 15 (by omega) (by omega) (by omega) (by omega) (by omega) (by omega) (by omega)) (v 16 (by omega) (by omega) (by omega) (by omega) (by omega) (by omega) (by omega)) (v 17 (by omega) (by omega) (by omega) (by omega) (by omega) (by omega) (by omega)) (v 18 (by omega) (by omega) (by omega) (by omega) (by omega) (by omega) (by omega)), i4, i5, ⟨n, t1, by rw [v 1 (by omega) (by omega) (by omega) (by omega) (by omega) (by omega) (by omega)]; exact t2, by rw [u85 9 (by omega) (by omega)]; exact t3, fun i hi => by rw [v 2 (by omega) (by omega) (by omega) (by omega) (by omega) (by omega) (by omega), v 91 (by omega) (by omega) (by omega) (by omega) (by omega) (by omega) (by omega)]; exact t4 i hi⟩, ?_, ⟨?_, Or.inr u6, fun _ => ⟨h, Λ, ?_, ?_, ?_, ?_, i5⟩⟩, ?_⟩
  · refine pst_of (cp_fr p1 (v 41 (by omega) (by omega) (by omega) (by omega) (by omega) (by omega) (by omega)) fun i h1 h2 => v i (by omega) (by omega) (by omega) (by omega) (by omega) (by omega) (by omega)) ⟨by rw [u85 7 (by omega) (by omega)]; exact p2.1, fun j hj k hk => ?_⟩ (by rw [v86]; exact p3)
    rw [v 90 (by omega) (by omega) (by omega) (by omega) (by omega) (by omega) (by omega)]
    exact p2.2 j hj k hk
  · rw [u6, u 0 (by omega) (by omega), s14]
  · rw [u87]
    exact cv_V (cv_fr s11 (u 11 (by omega) (by omega)) (u 12 (by omega) (by omega)) (u 13 (by omega) (by omega))) i2.n.2 i2.l.2 fun k hk _ => cpy_lo (by omega)
  · rw [u87]
    exact vw_V i2 fun k hk _ => cpy_lo (by omega)
  · exact cl_fr s28 (by rw [u 28 (by omega) (by omega)]) (u 29 (by omega) (by omega)) (u 30 (by omega) (by omega)) (u 31 (by omega) (by omega)) (u 32 (by omega) (by omega))
  · rw [u87]
    exact rl_V2 i4 i5 fun k hk => cpy_lo (by omega)
  · rw [u 0 (by omega) (by omega), s0 15 (by omega), u85 14 (by omega) (by omega)]
    exact i9
theorem ag_back : AgI fX10_back fX11_back := fun σ h Λ hI => by
  obtain ⟨i1, i2, i3, i4, i5, ⟨n, t1, t2, t3, t4⟩, i7, ⟨g1, g2, g3⟩, i9⟩ := id hI
  obtain ⟨m, x, W, p1, p2, p3⟩ := pst_to i7
  rcases g2 with z | z
  · refine ⟨0, σ, pn_up σ 85 0 0, h, Λ, ?_, ?_, hI.core Core_thrown⟩
    · unfold fX10_back
      rw [g1, z, if_pos rfl]
    · unfold fX11_back
      rw [pn_up_k _ _ _ _ (by omega), z, if_pos rfl]
  · obtain ⟨h', Λ', j1, j2, j3, j4, j5⟩ := g3 z
    obtain ⟨c1, c2, c3⟩ := c_copy (v := 5) j1 j2 (by omega)
    have l28 : CL (cpV σ 5 11) 28 h' Λ' := cl_fr j3 (by rw [c3 28 (by omega)]) (c3 29 (by omega)) (c3 30 (by omega)) (c3 31 (by omega)) (c3 32 (by omega))
    obtain ⟨d1, d2, d3, d4⟩ := c_lcopy (w := 14) l28 j5 (by omega)
    have e1 : fX10_back σ = some (1, pn_up (lcp2 (cpV σ 5 11) 14 28) 41 1 0) := by
      unfold fX10_back
      rw [g1, z, if_neg (by decide), c1, Option.bind_some, d1, Option.bind_some]
      rfl
    have s1 : ∀ i, i ≠ 5 → i ≠ 6 → i ≠ 7 → (i < 14 ∨ 18 < i) → i ≠ 41 → pn_up (lcp2 (cpV σ 5 11) 14 28) 41 1 0 i = σ i := fun i q1 q2 q3 q4 q5 => by rw [pn_up_a _ _ _ _ q5, d3 i (by omega), c3 i (by omega)]
    have s41 : pn_up (lcp2 (cpV σ 5 11) 14 28) 41 1 0 41 1 = 0 ∧ pn_up (lcp2 (cpV σ 5 11) 14 28) 41 1 0 41 2 = nI x := ⟨pn_up_s _ _ _ _, by rw [pn_up_k _ _ _ _ (by omega), d3 41 (by omega), c3 41 (by omega)]; exact p1.2.2.2.1⟩
    have s5 : CV (pn_up (lcp2 (cpV σ 5 11) 14 28) 41 1 0) 5 (σ 87) := cv_fr c2 (by rw [pn_up_a _ _ _ _ (by omega), d3 _ (by omega)]) (by rw [pn_up_a _ _ _ _ (by omega), d3 _ (by omega)]) (by rw [pn_up_a _ _ _ _ (by omega), d3 _ (by omega)])
    have s14 : CL (pn_up (lcp2 (cpV σ 5 11) 14 28) 41 1 0) 14 h' Λ' := cl_fr d2 (by rw [pn_up_a _ _ _ _ (by omega)]) (pn_up_a _ _ _ _ (by omega)) (pn_up_a _ _ _ _ (by omega)) (pn_up_a _ _ _ _ (by omega)) (pn_up_a _ _ _ _ (by omega))
    generalize pn_up (lcp2 (cpV σ 5 11) 14 28) 41 1 0 = σ1 at e1 s1 s41 s5 s14
    have e2 : fX11_back σ1 = some (1, pn_up (pn_ua (pn_up σ1 85 0 0) 86 (cpy (σ 86) (σ 87) 0 1166)) 85 7 0) := by
      unfold fX11_back
      rw [pn_up_k _ _ _ _ (by omega), s1 85 (by omega) (by omega) (by omega) (by omega) (by omega), z, if_neg (by decide), r_bck, pn_up_a _ _ _ _ (by omega), pn_up_a _ _ _ _ (by omega), s1 87 (by omega) (by omega) (by omega) (by omega) (by omega), s1 86 (by omega) (by omega) (by omega) (by omega) (by omega)]
    have u : ∀ i, i ≠ 85 → i ≠ 86 → pn_up (pn_ua (pn_up σ1 85 0 0) 86 (cpy (σ 86) (σ 87) 0 1166)) 85 7 0 i = σ1 i := fun i q1 q2 => by rw [pn_up_a _ _ _ _ q1, pn_ua_a _ _ _ q2, pn_up_a _ _ _ _ q1]
    have u86 : pn_up (pn_ua (pn_up σ1 85 0 0) 86 (cpy (σ 86) (σ 87) 0 1166)) 85 7 0 86 = cpy (σ 86) (σ 87) 0 1166 := by rw [pn_up_a _ _ _ _ (by omega), pn_ua_s]
    have u85 : ∀ k, k ≠ 0 → k ≠ 7 → pn_up (pn_ua (pn_up σ1 85 0 0) 86 (cpy (σ 86) (σ 87) 0 1166)) 85 7 0 85 k = σ 85 k := fun k q1 q2 => by rw [pn_up_k _ _ _ _ q2, pn_ua_a _ _ _ (by omega), pn_up_k _ _ _ _ q1, s1 85 (by omega) (by omega) (by omega) (by omega) (by omega)]
    have u7 : pn_up (pn_ua (pn_up σ1 85 0 0) 86 (cpy (σ 86) (σ 87) 0 1166)) 85 7 0 85 7 = 0 := pn_up_s _ _ _ _
    refine ⟨1, σ1, _, h', Λ', e1, e2, ?_⟩
    generalize pn_up (pn_ua (pn_up σ1 85 0 0) 86 (cpy (σ 86) (σ 87) 0 1166)) 85 7 0 = σ2 at u u86 u85 u7
    have v : ∀ i, i ≠ 5 → i ≠ 6 → i ≠ 7 → (i < 14 ∨ 18 < i) → i ≠ 41 → i ≠ 85 → i ≠ 86 → σ2 i = σ i := fun i q1 q2 q3 q4 q5 q6 q7 => (u i q6 q7).trans (s1 i q1 q2 q3 q4 q5)
    unfold Inv
    rw [u86]
    have va : ∀ k, k < 317 → k ≠ 2 → cpy (σ 86) (σ 87) 0 1166 k = σ 87 k := fun k hk _ => cpy_lo (by omega)
    refine ⟨cv_V (cv_fr s5 (u 5 (by omega) (by omega)) (u 6 (by omega) (by omega)) (u 7 (by omega) (by omega))) j2.n.2 j2.l.2 va, vw_V j2 va, cl_fr s14 (by rw [u 14 (by omega) (by omega)]) (u 15 (by omega) (by omega)) (u 16 (by omega) (by omega)) (u 17 (by omega) (by omega)) (u 18 (by omega) (by omega)), rl_V2 j4 j5 fun k hk => cpy_lo (by omega), j5, ⟨n, t1, by rw [v 1 (by omega) (by omega) (by omega) (by omega) (by omega) (by omega) (by omega)]; exact t2, by rw [u85 9 (by omega) (by omega)]; exact t3, fun i hi => by rw [v 2 (by omega) (by omega) (by omega) (by omega) (by omega) (by omega) (by omega), v 91 (by omega) (by omega) (by omega) (by omega) (by omega) (by omega) (by omega)]; exact t4 i hi⟩, ?_, ⟨?_, ?_, fun _ => ⟨h', Λ', ?_, ?_, ?_, ?_, j5⟩⟩, ?_⟩
    · refine pst_of (m := 0) (x := x) (W := W) ⟨by omega, p1.2.1, by rw [u 41 (by omega) (by omega)]; exact s41.1, by rw [u 41 (by omega) (by omega)]; exact s41.2, fun j hj => by omega⟩ ⟨u7, fun j hj => by omega⟩ fun j hj => by omega
    · rw [u85 6 (by omega) (by omega), v 0 (by omega) (by omega) (by omega) (by omega) (by omega) (by omega) (by omega)]; exact g1
    · rw [u85 6 (by omega) (by omega)]; exact Or.inr z
    · rw [v 87 (by omega) (by omega) (by omega) (by omega) (by omega) (by omega) (by omega)]
      exact cv_fr j1 (v 11 (by omega) (by omega) (by omega) (by omega) (by omega) (by omega) (by omega)) (v 12 (by omega) (by omega) (by omega) (by omega) (by omega) (by omega) (by omega)) (v 13 (by omega) (by omega) (by omega) (by omega) (by omega) (by omega) (by omega))
    · rw [v 87 (by omega) (by omega) (by omega) (by omega) (by omega) (by omega) (by omega)]; exact j2
    · exact cl_fr j3 (by rw [v 28 (by omega) (by omega) (by omega) (by omega) (by omega) (by omega) (by omega)]) (v 29 (by omega) (by omega) (by omega) (by omega) (by omega) (by omega) (by omega)) (v 30 (by omega) (by omega) (by omega) (by omega) (by omega) (by omega) (by omega)) (v 31 (by omega) (by omega) (by omega) (by omega) (by omega) (by omega) (by omega)) (v 32 (by omega) (by omega) (by omega) (by omega) (by omega) (by omega) (by omega))
    · rw [v 87 (by omega) (by omega) (by omega) (by omega) (by omega) (by omega) (by omega)]; exact j4
    · rw [v 0 (by omega) (by omega) (by omega) (by omega) (by omega) (by omega) (by omega), u85 14 (by omega) (by omega)]; exact i9
