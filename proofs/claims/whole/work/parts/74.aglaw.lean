/-! PURE: the call 'law' -/
def CorW (σ σ' : pn_S) : Prop := (∀ i, ((5 ≤ i ∧ i ≤ 7) ∨ (11 ≤ i ∧ i ≤ 13) ∨ (15 ≤ i ∧ i ≤ 18) ∨ (29 ≤ i ∧ i ≤ 32) ∨ (43 ≤ i ∧ i ≤ 78) ∨ i = 87 ∨ i = 90) → σ' i = σ i) ∧ (∀ k, k < 1166 → σ' 86 k = σ 86 k) ∧ σ' 0 14 = σ 0 14 ∧ σ' 14 6 = σ 14 6 ∧ σ' 28 6 = σ 28 6 ∧ σ' 41 1 = σ 41 1 ∧ σ' 41 2 = σ 41 2 ∧ σ' 85 6 = σ 85 6 ∧ σ' 85 7 = σ 85 7
theorem inv_W {σ σ' : pn_S} {h : Bool} {Λ : pn_La} (hI : Inv σ h Λ) (hc : CorW σ σ') (ht : Tap σ') (h9 : σ' 0 15 = σ' 85 14) : Inv σ' h Λ := by
  obtain ⟨i1, i2, i3, i4, i5, i6, ⟨m, x, p1, p2, p3, p4, p5, p6⟩, ⟨g1, g2, g3⟩, i9⟩ := hI
  obtain ⟨r, e86, a1, a4, a5, a6, a7, a8, a9⟩ := hc
  have e87 : σ' 87 = σ 87 := r 87 (by omega)
  have e90 : σ' 90 = σ 90 := r 90 (by omega)
  have ev : ∀ j, vsl σ' j = vsl σ j := fun j => by unfold vsl; rw [e90]
  refine ⟨cv_V (cv_fr i1 (r 5 (by omega)) (r 6 (by omega)) (r 7 (by omega))) i2.n.2 i2.l.2 fun k hk _ => e86 k (by omega), vw_V i2 fun k hk _ => e86 k (by omega), cl_fr i3 a4 (r 15 (by omega)) (r 16 (by omega)) (r 17 (by omega)) (r 18 (by omega)), rl_V2 i4 i5 fun k hk => e86 k (by omega), i5, ht, ⟨m, x, p1, p2, a6.trans p3, a7.trans p4, a9.trans p5, fun j hj => ?_⟩, ⟨a1.trans (g1.trans a8.symm), by rw [a8]; exact g2, fun q => ?_⟩, h9⟩
  · rw [ev, e86 2 (by omega)]
    obtain ⟨q1, q2, q3⟩ := p6 j hj
    exact ⟨cv_fr q1 (r _ (by omega)) (r _ (by omega)) (r _ (by omega)), q2, q3⟩
  · rw [a8] at q
    obtain ⟨h', Λ', q1, q2, q3, q4, q5⟩ := g3 q
    rw [e87]
    exact ⟨h', Λ', cv_fr q1 (r 11 (by omega)) (r 12 (by omega)) (r 13 (by omega)), q2, cl_fr q3 a5 (r 29 (by omega)) (r 30 (by omega)) (r 31 (by omega)) (r 32 (by omega)), q4, q5⟩
theorem r_l52 {τ : pn_S} {x : Int32} : fX11_law_52 5000 x 0 τ = some (x, pn_up (pn_up (pn_ua τ 86 (cpy (τ 86) (fun i => τ 86 (1166 + i)) 317 849)) 86 2 1) 85 7 0) := by
  obtain ⟨s, g1, g2⟩ := lpE (n := 849) (F := fun f k s => fX11_law_52 f x (nI k) s) (out := fun s => some (x, pn_up (pn_up s 86 2 1) 85 7 0)) (fun k s => s = pn_ua τ 86 (cpy (τ 86) (fun i => τ 86 (1166 + i)) 317 k))
    (fun f s _ => by rw [fX11_law_52, if_pos (show (849 : Int32) ≤ nI 849 by decide)])
    (fun f k s hk hs => by
      refine ⟨_, ?_, cpy_s τ 86 317 k _⟩
      have e1 : (1166 : Int32) + nI k = nI (1166 + k) := nI_add 1166 k
      have e2 : (317 : Int32) + nI k = nI (317 + k) := nI_add 317 k
      have e86 : s 86 (1166 + k) = τ 86 (1166 + k) := by
        rw [hs, pn_ua_s]
        unfold cpy
        rw [if_neg (by omega)]
      rw [fX11_law_52, if_neg (show ¬ (849 : Int32) ≤ nI k from nI_ge (b := 849) hk (by omega)), e1, e2, q_ib (by omega) (by omega), if_pos rfl, q_ib (by omega) (by omega), if_pos rfl, nI_1, nI_clamp (by omega), nI_clamp (by omega), e86, hs]) 849 0 5000 τ (by omega) (by omega) (cpy_0 _ _ _ _).symm
  refine g1.trans ?_
  rw [g2]
theorem LD.lw {σ τ : pn_S} {l S : Nat} {kd of : Nat → Nat} (h : LD σ τ l S kd of) : LW (l, kd, σ 23, of, σ 25) ∧ CL σ 21 true (l, kd, σ 23, of, σ 25) := by
  obtain ⟨a1, a2, a3, a4, a5, a6, a7, a8, a9⟩ := h
  refine ⟨⟨a1, a6, by show of l ≤ 400; omega, fun i hi => ?_⟩, ⟨a3, fun q => (by cases q), fun i hi => ?_, fun j hj => rfl⟩⟩
  · obtain ⟨b1, b2, b3, b4, b5, b6, b7, b8, b9, b10, b11, b12⟩ := a8 i hi
    exact ⟨b1, b3, b6, b8⟩
  · obtain ⟨b1, b2, b3, b4, b5, b6, b7, b8, b9, b10, b11, b12⟩ := a8 i hi
    exact ⟨b2, rfl, b4, b5⟩
theorem LD.rl {σ τ : pn_S} {l S : Nat} {kd of : Nat → Nat} (h : LD σ τ l S kd of) {U : pn_V} (h2 : U 2 = 1) (h317 : U 317 = nI l) (hU : ∀ k, 318 ≤ k → k < 1166 → U k = τ 86 (k + 849)) : RLa U true (l, kd, σ 23, of, σ 25) := by
  obtain ⟨a1, a2, a3, a4, a5, a6, a7, a8, a9⟩ := h
  refine ⟨h2, fun q => (by cases q), fun _ => h317, fun i hi => ?_, fun j hj => ?_⟩
  · obtain ⟨b1, b2, b3, b4, b5, b6, b7, b8, b9, b10, b11, b12⟩ := a8 i hi
    have hi : i < l := hi
    refine ⟨?_, ?_, ?_, ?_⟩
    · rw [hU _ (by omega) (by omega), show 318 + 4 * i + 849 = 1167 + 4 * i by omega]; exact b9
    · rw [hU _ (by omega) (by omega), show 319 + 4 * i + 849 = 1168 + 4 * i by omega]; exact b10
    · rw [hU _ (by omega) (by omega), show 320 + 4 * i + 849 = 1169 + 4 * i by omega]; exact b11
    · rw [hU _ (by omega) (by omega), show 321 + 4 * i + 849 = 1170 + 4 * i by omega]; exact b12
  · have hj : j < of l := hj
    have := a9 j (by omega)
    rw [hU _ (by omega) (by omega), show 366 + 2 * j + 849 = 1215 + 2 * j by omega, hU _ (by omega) (by omega), show 367 + 2 * j + 849 = 1216 + 2 * j by omega]
    exact this
theorem ag_law : Ag fX10_law fX11_law hL_law := by
  intro σ h Λ hI
  obtain ⟨n, t1, t2, t3, t4⟩ := hI.2.2.2.2.2.1
  have hw := hI.2.1
  obtain ⟨σ2, m, s1, s2, s3, s4, s5, s6⟩ := c_text hI t1 t2 t4
  have hb : HB (fun i => σ 91 i &&& 255) (σ 91) n := ⟨t1, fun i hi => ⟨rfl, (t4 i hi).2⟩⟩
  have ev : fX10_law σ = pn_bi (fX4_readLines_36 12 (pn_up (pn_up σ2 21 6 0) 21 7 0)) fun x4 σ4 => if x4 = 0 then some (.inr "java/lang/IllegalArgumentException", (pn_up σ4 0 15 (σ4 1 7))) else (fX2_copy 14 21 (pn_up σ4 0 15 (σ4 1 7))).bind fun σ6 => (fX5_forget σ6).bind fun σ7 => some (.inl (σ7 14 6), σ7) := by
    unfold fX10_law
    rw [← Option.bind_assoc, s1, Option.bind_some]
    unfold fX2_clear
    rw [Option.bind_some]
  have h6 : pn_up (pn_up σ2 21 6 0) 21 7 0 21 6 = 0 := by rw [pn_up_k _ _ _ _ (by omega), pn_up_s]
  have h7 : pn_up (pn_up σ2 21 6 0) 21 7 0 21 7 = 0 := pn_up_s _ _ _ _
  have c3 : ∀ i, i ≠ 21 → pn_up (pn_up σ2 21 6 0) 21 7 0 i = σ2 i := fun i hi => by rw [pn_up_a _ _ _ _ hi, pn_up_a _ _ _ _ hi]
  generalize pn_up (pn_up σ2 21 6 0) 21 7 0 = σ3 at h6 h7 c3 ev
  have cj : CJ n (σ2 3) (σ2 4) m 0 σ3 := s2.fr (c3 1 (by omega)) (c3 3 (by omega)) (c3 4 (by omega))
  have both : ∀ ρ : pn_S, ρ 91 = σ 91 → JB n σ3 (Ust ρ n) (fX4_readLines_36 12 σ3) ((fX11_blanks (Ust ρ n)).bind fun σ2 => if (σ2 85 10) = (σ2 85 11) then some ((0 : Int32), σ2) else fX11_readAll_28 5000 0 (0 : Int32) σ2) := fun ρ r1 => by
    have rj := Ust_RJ (ρ := ρ) (n := n)
    rw [r1] at rj
    exact j_lall hb ⟨cj, rj, s3, s4⟩ h6 h7 rfl
  have fr3 : ∀ i, i ≠ 1 ∧ i ≠ 3 ∧ i ≠ 4 ∧ i ≠ 21 → σ3 i = σ i := fun i q => (c3 i q.2.2.2).trans (s6 i (by omega))
  have s13 : σ3 1 3 = 0 := by rw [c3 1 (by omega)]; exact s5
  rcases both σ rfl with ⟨σ4, τ0, l0, S0, kd0, of0, a1, _, a3, a4, a5, _⟩ | ⟨σ4, τ0, p, a1, _, a3, a4, a5, a6, _⟩
  · rw [a1, bi_some, if_neg (show ¬ (1 : Int32) = 0 by decide), a3] at ev
    have fr4 : ∀ i, (i ≠ 1 ∧ i ≠ 3 ∧ i ≠ 4) ∧ (i < 21 ∨ 25 < i) → σ4 i = σ i := fun i q => (a5.1 i (by omega) (by omega) (by omega) (by omega) (by omega) (by omega)).trans (fr3 i (by omega))
    have s413 : σ4 1 3 = 0 := (a5.2 3 (by omega) (by omega)).trans s13
    obtain ⟨w0, cl0⟩ := a4.lw
    have clx : ∀ {Λ' : pn_La}, CL σ4 21 true Λ' → CL (pn_up σ4 0 15 (-1)) 21 true Λ' := fun q => cl_fr q (by rw [pn_up_a _ _ _ _ (by omega)]) (pn_up_a _ _ _ _ (by omega)) (pn_up_a _ _ _ _ (by omega)) (pn_up_a _ _ _ _ (by omega)) (pn_up_a _ _ _ _ (by omega))
    obtain ⟨d1, d2, d3, d4⟩ := c_lcopy (w := 14) (clx cl0) w0 (by omega)
    have cp : ∀ {Λ' : pn_La}, CL σ4 21 true Λ' → LW Λ' → CL (lcp2 (pn_up σ4 0 15 (-1)) 14 21) 14 true Λ' := fun q1 q2 => (c_lcopy (w := 14) (clx q1) q2 (by omega)).2.1
    rw [d1, Option.bind_some] at ev
    unfold fX5_forget at ev
    rw [Option.bind_some] at ev
    have d0 : ∀ k, k ≠ 15 → lcp2 (pn_up σ4 0 15 (-1)) 14 21 0 k = σ 0 k := fun k hk => by rw [d3 0 (by omega), pn_up_k _ _ _ _ hk, fr4 0 (by omega)]
    have d015 : lcp2 (pn_up σ4 0 15 (-1)) 14 21 0 15 = -1 := by rw [d3 0 (by omega), pn_up_s]
    have dz : ∀ i, (i ≠ 0 ∧ i ≠ 1 ∧ i ≠ 3 ∧ i ≠ 4) ∧ (i < 14 ∨ 18 < i) ∧ (i < 21 ∨ 25 < i) → lcp2 (pn_up σ4 0 15 (-1)) 14 21 i = σ i := fun i q => by rw [d3 i (by omega), pn_up_a _ _ _ _ (by omega), fr4 i (by omega)]
    have d13 : lcp2 (pn_up σ4 0 15 (-1)) 14 21 1 3 = 0 := by rw [d3 1 (by omega), pn_up_a _ _ _ _ (by omega)]; exact s413
    generalize lcp2 (pn_up σ4 0 15 (-1)) 14 21 = σ6 at ev cp d0 d015 dz d13
    refine Or.inl ⟨_, _, ev, fun y => ?_⟩
    have fE : ∀ i, i ≠ 41 → i ≠ 96 → pn_up (pn_up σ6 41 1 0) 96 0 y i = σ6 i := fun i q1 q2 => by rw [pn_up_a _ _ _ _ q2, pn_up_a _ _ _ _ q1]
    have c41 : pn_up (pn_up σ6 41 1 0) 96 0 y 41 1 = 0 ∧ pn_up (pn_up σ6 41 1 0) 96 0 y 41 2 = σ 41 2 := ⟨by rw [pn_up_a _ _ _ _ (by omega), pn_up_s], by rw [pn_up_a _ _ _ _ (by omega), pn_up_k _ _ _ _ (by omega), dz 41 (by omega)]⟩
    have c96 : pn_up (pn_up σ6 41 1 0) 96 0 y 96 0 = y := pn_up_s _ _ _ _
    have c14 : pn_up σ6 41 1 0 14 6 = σ6 14 6 := by rw [pn_up_a _ _ _ _ (by omega)]
    rw [c14]
    generalize pn_up (pn_up σ6 41 1 0) 96 0 y = ρ at fE c41 c96
    have g91 : ρ 91 = σ 91 := (fE 91 (by omega) (by omega)).trans (dz 91 (by omega))
    have g86 : ρ 86 = σ 86 := (fE 86 (by omega) (by omega)).trans (dz 86 (by omega))
    have g85 : ρ 85 = σ 85 := (fE 85 (by omega) (by omega)).trans (dz 85 (by omega))
    have bo := both ρ g91
    rw [← r_all (by rw [g85]; exact t3) 0] at bo
    rcases bo with ⟨σ4', τ', l, S, kd, of, b1, b2, _, b4, _, b6⟩ | ⟨σ4', τ', p, b1, _⟩
    rotate_left
    · rw [a1] at b1; cases b1
    rw [a1] at b1
    cases b1
    obtain ⟨lw, cl⟩ := b4.lw
    have cl6 := cp cl lw
    have hl := b4.1
    have px : (0 : Int32) ≤ nI l := by rw [q_le, nI_toInt (by omega)]; show (0 : Int) ≤ _; omega
    have eR : fX11_law ρ = some (nI l, pn_up (pn_up (pn_ua (pn_up (pn_up τ' 85 14 (-1)) 86 1166 (nI l)) 86 (cpy (pn_up (pn_up τ' 85 14 (-1)) 86 1166 (nI l) 86) (fun i => pn_up (pn_up τ' 85 14 (-1)) 86 1166 (nI l) 86 (1166 + i)) 317 849)) 86 2 1) 85 7 0) := by
      unfold fX11_law
      rw [b2, bi_some, if_pos px]
      unfold fX11_law_19 fX11_law_32
      rw [if_pos px, r_t0, bi_some, if_pos rfl, r_l52]
    have x86 : pn_up (pn_up τ' 85 14 (-1)) 86 1166 (nI l) 86 = upd (τ' 86) 1166 (nI l) := by rw [pn_up_row, pn_up_a _ _ _ _ (by omega)]
    rw [x86] at eR
    have z : ∀ i, i ≠ 85 → i ≠ 86 → pn_up (pn_up (pn_ua (pn_up (pn_up τ' 85 14 (-1)) 86 1166 (nI l)) 86 (cpy (upd (τ' 86) 1166 (nI l)) (fun i => upd (τ' 86) 1166 (nI l) (1166 + i)) 317 849)) 86 2 1) 85 7 0 i = ρ i := fun i q1 q2 => by rw [pn_up_a _ _ _ _ q1, pn_up_a _ _ _ _ q2, pn_ua_a _ _ _ q2, pn_up_a _ _ _ _ q2, pn_up_a _ _ _ _ q1, b6.1 i q1 q2, Ust_i q1]
    have z85 : ∀ k, k = 0 ∨ k = 6 ∨ k = 9 → pn_up (pn_up (pn_ua (pn_up (pn_up τ' 85 14 (-1)) 86 1166 (nI l)) 86 (cpy (upd (τ' 86) 1166 (nI l)) (fun i => upd (τ' 86) 1166 (nI l) (1166 + i)) 317 849)) 86 2 1) 85 7 0 85 k = Ust ρ n 85 k := fun k hk => by rw [pn_up_k _ _ _ _ (by omega), pn_up_a _ _ _ _ (by omega), pn_ua_a _ _ _ (by omega), pn_up_a _ _ _ _ (by omega), pn_up_k _ _ _ _ (by omega), b6.2.1 k (by omega) (by omega) (by omega) (by omega)]
    have z7 : pn_up (pn_up (pn_ua (pn_up (pn_up τ' 85 14 (-1)) 86 1166 (nI l)) 86 (cpy (upd (τ' 86) 1166 (nI l)) (fun i => upd (τ' 86) 1166 (nI l) (1166 + i)) 317 849)) 86 2 1) 85 7 0 85 7 = 0 := pn_up_s _ _ _ _
    have z14 : pn_up (pn_up (pn_ua (pn_up (pn_up τ' 85 14 (-1)) 86 1166 (nI l)) 86 (cpy (upd (τ' 86) 1166 (nI l)) (fun i => upd (τ' 86) 1166 (nI l) (1166 + i)) 317 849)) 86 2 1) 85 7 0 85 14 = -1 := by rw [pn_up_k _ _ _ _ (by omega), pn_up_a _ _ _ _ (by omega), pn_ua_a _ _ _ (by omega), pn_up_a _ _ _ _ (by omega), pn_up_s]
    have z86 : pn_up (pn_up (pn_ua (pn_up (pn_up τ' 85 14 (-1)) 86 1166 (nI l)) 86 (cpy (upd (τ' 86) 1166 (nI l)) (fun i => upd (τ' 86) 1166 (nI l) (1166 + i)) 317 849)) 86 2 1) 85 7 0 86 = upd (cpy (upd (τ' 86) 1166 (nI l)) (fun i => upd (τ' 86) 1166 (nI l) (1166 + i)) 317 849) 2 1 := by rw [pn_up_a _ _ _ _ (by omega), pn_up_row, pn_ua_s]
    generalize pn_up (pn_up (pn_ua (pn_up (pn_up τ' 85 14 (-1)) 86 1166 (nI l)) 86 (cpy (upd (τ' 86) 1166 (nI l)) (fun i => upd (τ' 86) 1166 (nI l) (1166 + i)) 317 849)) 86 2 1) 85 7 0 = Z at eR z z85 z7 z14 z86
    have e14 : σ6 14 6 = nI l := cl6.1
    refine ⟨Z, true, (l, kd, σ4 23, of, σ4 25), by rw [e14]; exact eR, by rw [z85 0 (by omega)]; exact Ust_v.1, by rw [z 96 (by omega) (by omega)]; exact c96, ?_⟩
    have zl : ∀ k, k < 317 → k ≠ 2 → Z 86 k = σ 86 k := fun k q1 q2 => by
      rw [z86, pk_un q2]
      unfold cpy
      rw [if_neg (by omega), pk_un (by omega), b6.2.2 k (by omega), Ust_i (by omega), g86]
    have zc : ∀ k, 317 ≤ k → k < 1166 → Z 86 k = upd (τ' 86) 1166 (nI l) (k + 849) := fun k q1 q2 => by
      rw [z86, pk_un (by omega)]
      unfold cpy
      rw [if_pos (by omega)]
      show upd (τ' 86) 1166 (nI l) (1166 + (k - 317)) = _
      rw [show 1166 + (k - 317) = k + 849 by omega]
    have zz : ∀ i, (i ≠ 0 ∧ i ≠ 1 ∧ i ≠ 3 ∧ i ≠ 4) ∧ (i < 14 ∨ 18 < i) ∧ (i < 21 ∨ 25 < i) ∧ i ≠ 41 ∧ i ≠ 96 ∧ i ≠ 85 ∧ i ≠ 86 → Z i = σ i := fun i q => ((z i (by omega) (by omega)).trans (fE i (by omega) (by omega))).trans (dz i (by omega))
    have z6 : Z 85 6 = σ 85 6 := by rw [z85 6 (by omega), Ust_k (by omega), g85]
    have zr : ∀ i, i ≠ 41 ∧ i ≠ 96 ∧ i ≠ 85 ∧ i ≠ 86 → Z i = σ6 i := fun i q => (z i (by omega) (by omega)).trans (fE i (by omega) (by omega))
    obtain ⟨m0, x1, W, p1, p2, p3⟩ := pst_to hI.2.2.2.2.2.2.1
    obtain ⟨gi1, gi2, gi3⟩ := hI.2.2.2.2.2.2.2.1
    refine ⟨cv_V (cv_fr hI.1 (zz 5 (by omega)) (zz 6 (by omega)) (zz 7 (by omega))) hw.n.2 hw.l.2 zl, vw_V hw zl, cl_fr cl6 (by rw [zr 14 (by omega)]) (zr 15 (by omega)) (zr 16 (by omega)) (zr 17 (by omega)) (zr 18 (by omega)), b4.rl (by rw [z86, pk_us]) (by rw [zc 317 (by omega) (by omega)]; exact pk_us) (fun k q1 q2 => by rw [zc k (by omega) q2, pk_un (by omega)]), lw, ⟨0, by omega, by rw [zr 1 (by omega)]; exact d13, by rw [z85 9 (by omega)]; exact Ust_v.2.1, fun i hi => by omega⟩, ?_, ⟨?_, ?_, fun q => ?_⟩, ?_⟩
    · exact pst_of (m := 0) (x := x1) (W := W) ⟨by omega, p1.2.1, by rw [z 41 (by omega) (by omega)]; exact c41.1, by rw [z 41 (by omega) (by omega), c41.2]; exact p1.2.2.2.1, fun j hj => by omega⟩ ⟨z7, fun j hj => by omega⟩ fun j hj => by omega
    · rw [zr 0 (by omega), d0 14 (by omega), z6]; exact gi1
    · rw [z6]; exact gi2
    · rw [z6] at q
      obtain ⟨h', Λ', q1, q2, q3, q4, q5⟩ := gi3 q
      rw [zz 87 (by omega)]
      exact ⟨h', Λ', cv_fr q1 (zz 11 (by omega)) (zz 12 (by omega)) (zz 13 (by omega)), q2, cl_fr q3 (by rw [zz 28 (by omega)]) (zz 29 (by omega)) (zz 30 (by omega)) (zz 31 (by omega)) (zz 32 (by omega)), q4, q5⟩
    · rw [zr 0 (by omega), d015, z14]
  · rw [a1, bi_some, if_pos rfl, a4] at ev
    have fr4 : ∀ i, (i ≠ 1 ∧ i ≠ 3 ∧ i ≠ 4) ∧ (i < 21 ∨ 25 < i) → σ4 i = σ i := fun i q => (a6.1 i (by omega) (by omega) (by omega) (by omega) (by omega) (by omega)).trans (fr3 i (by omega))
    have s413 : σ4 1 3 = 0 := (a6.2 3 (by omega) (by omega)).trans s13
    have g : ∀ i, i ≠ 0 → pn_up σ4 0 15 (nI p) i = σ4 i := fun i hi => pn_up_a _ _ _ _ hi
    have g0 : ∀ k, k ≠ 15 → pn_up σ4 0 15 (nI p) 0 k = σ 0 k := fun k hk => by rw [pn_up_k _ _ _ _ hk, fr4 0 (by omega)]
    have g15 : pn_up σ4 0 15 (nI p) 0 15 = nI p := pn_up_s _ _ _ _
    generalize pn_up σ4 0 15 (nI p) = ρ at g g0 g15 ev
    have g91 : ρ 91 = σ 91 := (g 91 (by omega)).trans (fr4 91 (by omega))
    have g86 : ρ 86 = σ 86 := (g 86 (by omega)).trans (fr4 86 (by omega))
    have g85 : ρ 85 = σ 85 := (g 85 (by omega)).trans (fr4 85 (by omega))
    have bo := both ρ g91
    rw [← r_all (by rw [g85]; exact t3) 0] at bo
    rcases bo with ⟨σ4', τ', l, S, kd, of, b1, _⟩ | ⟨σ4', τ', p', b1, b2, _, b4, b5, _, b7⟩
    · rw [a1] at b1; cases b1
    rw [a1] at b1
    cases b1
    rw [a4] at b4
    rw [← b4] at b5
    have eR : fX11_law ρ = some (0, pn_up (pn_up τ' 85 14 (nI p)) 85 0 1) := by
      unfold fX11_law
      rw [b2, bi_some, if_neg (show ¬ (0 : Int32) ≤ -1 by decide), b5]
      unfold fX11_law_19 fX11_law_32
      rw [if_neg (show ¬ (0 : Int32) ≤ -1 by decide), r_t1, bi_some, if_neg (show ¬ (1 : Int32) = 0 by decide)]
    have z : ∀ i, i ≠ 85 → i ≠ 86 → pn_up (pn_up τ' 85 14 (nI p)) 85 0 1 i = ρ i := fun i q1 q2 => by rw [pn_up_a _ _ _ _ q1, pn_up_a _ _ _ _ q1, b7.1 i q1 q2, Ust_i q1]
    have z86 : ∀ k, k < 1166 → pn_up (pn_up τ' 85 14 (nI p)) 85 0 1 86 k = σ 86 k := fun k hk => by rw [pn_up_a _ _ _ _ (by omega), pn_up_a _ _ _ _ (by omega), b7.2.2 k hk, Ust_i (by omega), g86]
    have z85 : ∀ k, k = 6 ∨ k = 7 ∨ k = 9 → pn_up (pn_up τ' 85 14 (nI p)) 85 0 1 85 k = Ust ρ n 85 k := fun k hk => by rw [pn_up_k _ _ _ _ (by omega), pn_up_k _ _ _ _ (by omega), b7.2.1 k (by omega) (by omega) (by omega) (by omega)]
    have z0 : pn_up (pn_up τ' 85 14 (nI p)) 85 0 1 85 0 = 1 := pn_up_s _ _ _ _
    have z14 : pn_up (pn_up τ' 85 14 (nI p)) 85 0 1 85 14 = nI p := by rw [pn_up_k _ _ _ _ (by omega), pn_up_s]
    refine Or.inr ⟨_, _, 0, _, h, Λ, ev, eR, by rw [z0]; exact if_pos rfl, by rw [z0]; decide, ?_⟩
    generalize pn_up (pn_up τ' 85 14 (nI p)) 85 0 1 = Z at z z86 z85 z0 z14
    have zz : ∀ i, (i ≠ 0 ∧ i ≠ 1 ∧ i ≠ 3 ∧ i ≠ 4) ∧ (i < 21 ∨ 25 < i) ∧ i ≠ 85 ∧ i ≠ 86 → Z i = σ i := fun i q => ((z i (by omega) (by omega)).trans (g i (by omega))).trans (fr4 i (by omega))
    refine inv_W hI ⟨fun i hi => zz i (by omega), z86, ?_, by rw [zz 14 (by omega)], by rw [zz 28 (by omega)], by rw [zz 41 (by omega)], by rw [zz 41 (by omega)], by rw [z85 6 (by omega), Ust_k (by omega), g85], by rw [z85 7 (by omega), Ust_k (by omega), g85]⟩ ⟨0, by omega, by rw [z 1 (by omega) (by omega), g 1 (by omega)]; exact s413, by rw [z85 9 (by omega)]; exact Ust_v.2.1, fun i hi => by omega⟩ ?_
    · rw [z 0 (by omega) (by omega), g0 14 (by omega)]
    · rw [z 0 (by omega) (by omega), g15, z14]
