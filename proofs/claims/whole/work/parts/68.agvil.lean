/-! PURE: the call 'village' -/
def CorU (σ σ' : pn_S) : Prop := (∀ i, ((5 ≤ i ∧ i ≤ 7) ∨ (11 ≤ i ∧ i ≤ 13) ∨ (15 ≤ i ∧ i ≤ 18) ∨ (29 ≤ i ∧ i ≤ 32) ∨ (43 ≤ i ∧ i ≤ 78) ∨ i = 86 ∨ i = 87 ∨ i = 90) → σ' i = σ i) ∧ σ' 0 14 = σ 0 14 ∧ σ' 14 6 = σ 14 6 ∧ σ' 28 6 = σ 28 6 ∧ σ' 41 1 = σ 41 1 ∧ σ' 41 2 = σ 41 2 ∧ σ' 85 6 = σ 85 6 ∧ σ' 85 7 = σ 85 7
theorem inv_U {σ σ' : pn_S} {h : Bool} {Λ : pn_La} (hI : Inv σ h Λ) (hc : CorU σ σ') (ht : Tap σ') (h9 : σ' 0 15 = σ' 85 14) : Inv σ' h Λ := by
  obtain ⟨i1, i2, i3, i4, i5, i6, ⟨m, x, p1, p2, p3, p4, p5, p6⟩, ⟨g1, g2, g3⟩, i9⟩ := hI
  obtain ⟨r, a1, a4, a5, a6, a7, a8, a9⟩ := hc
  have e86 : σ' 86 = σ 86 := r 86 (by omega)
  have e87 : σ' 87 = σ 87 := r 87 (by omega)
  have e90 : σ' 90 = σ 90 := r 90 (by omega)
  have ev : ∀ j, vsl σ' j = vsl σ j := fun j => by unfold vsl; rw [e90]
  unfold Inv
  rw [e86]
  refine ⟨cv_fr i1 (r 5 (by omega)) (r 6 (by omega)) (r 7 (by omega)), i2, cl_fr i3 a4 (r 15 (by omega)) (r 16 (by omega)) (r 17 (by omega)) (r 18 (by omega)), i4, i5, ht, ⟨m, x, p1, p2, a6.trans p3, a7.trans p4, a9.trans p5, fun j hj => ?_⟩, ⟨a1.trans (g1.trans a8.symm), by rw [a8]; exact g2, fun q => ?_⟩, h9⟩
  · rw [ev, e86]
    obtain ⟨q1, q2, q3⟩ := p6 j hj
    exact ⟨cv_fr q1 (r _ (by omega)) (r _ (by omega)) (r _ (by omega)), q2, q3⟩
  · rw [a8] at q
    obtain ⟨h', Λ', q1, q2, q3, q4, q5⟩ := g3 q
    rw [e87]
    exact ⟨h', Λ', cv_fr q1 (r 11 (by omega)) (r 12 (by omega)) (r 13 (by omega)), q2, cl_fr q3 a5 (r 29 (by omega)) (r 30 (by omega)) (r 31 (by omega)) (r 32 (by omega)), q4, q5⟩
theorem r_v2 {τ : pn_S} : fX11_village τ = pn_bi (fX11_readAll 1 (pn_ua τ 88 (cpy (τ 88) (τ 86) 0 1166))) fun x2 σ2 => if 0 ≤ x2 then fX11_village_46 x2 (-1) σ2 else fX11_village_46 x2 (σ2 85 12) σ2 := by
  obtain ⟨s, g1, g2⟩ := lpE (n := 1166) (F := fun f k s => fX11_village_2 f (nI k) s) (out := fun s => pn_bi (fX11_readAll 1 s) fun x2 σ2 => if 0 ≤ x2 then fX11_village_46 x2 (-1) σ2 else fX11_village_46 x2 (σ2 85 12) σ2) (fun k s => s = pn_ua τ 88 (cpy (τ 88) (τ 86) 0 k))
    (fun f s _ => by rw [fX11_village_2, if_pos (show (1166 : Int32) ≤ nI 1166 by decide)])
    (fun f k s hk hs => by
      refine ⟨_, ?_, cpy_s τ 88 0 k (τ 86)⟩
      have e86 : s 86 = τ 86 := by rw [hs, pn_ua_a _ _ _ (by omega)]
      rw [fX11_village_2, if_neg (show ¬ (1166 : Int32) ≤ nI k from nI_ge (b := 1166) hk (by omega)), q_ib (by omega) (by omega), if_pos rfl, q_ib (by omega) (by omega), if_pos rfl, nI_1, nI_clamp (by omega), e86, hs, Nat.zero_add]) 1166 0 5000 τ (by omega) (by omega) (cpy_0 _ _ _ _).symm
  unfold fX11_village
  refine g1.trans ?_
  rw [g2]
theorem r_v92 {τ : pn_S} : fX11_village_92 5000 0 τ = some (0, pn_ua τ 86 (cpy (τ 86) (τ 88) 0 1166)) := by
  obtain ⟨s, g1, g2⟩ := lpE (n := 1166) (F := fun f k s => fX11_village_92 f (nI k) s) (out := fun s => some (0, s)) (fun k s => s = pn_ua τ 86 (cpy (τ 86) (τ 88) 0 k))
    (fun f s _ => by rw [fX11_village_92, if_pos (show (1166 : Int32) ≤ nI 1166 by decide)])
    (fun f k s hk hs => by
      refine ⟨_, ?_, cpy_s τ 86 0 k (τ 88)⟩
      have e88 : s 88 = τ 88 := by rw [hs, pn_ua_a _ _ _ (by omega)]
      rw [fX11_village_92, if_neg (show ¬ (1166 : Int32) ≤ nI k from nI_ge (b := 1166) hk (by omega)), q_ib (by omega) (by omega), if_pos rfl, q_ib (by omega) (by omega), if_pos rfl, nI_1, nI_clamp (by omega), e88, hs, Nat.zero_add]) 1166 0 5000 τ (by omega) (by omega) (cpy_0 _ _ _ _).symm
  refine g1.trans ?_
  rw [g2]
/-- the reference begins to read -/
def Ust (ρ : pn_S) (n : Nat) : pn_S := pn_up (pn_up (pn_up (pn_up (pn_up ρ 85 0 0) 85 11 (nI n)) 85 9 0) 85 10 0) 85 16 0
theorem Ust_i {ρ : pn_S} {n i : Nat} (h : i ≠ 85) : Ust ρ n i = ρ i := by unfold Ust; rw [pn_up_a _ _ _ _ h, pn_up_a _ _ _ _ h, pn_up_a _ _ _ _ h, pn_up_a _ _ _ _ h, pn_up_a _ _ _ _ h]
theorem Ust_k {ρ : pn_S} {n k : Nat} (h : k ≠ 0 ∧ k ≠ 9 ∧ k ≠ 10 ∧ k ≠ 11 ∧ k ≠ 16) : Ust ρ n 85 k = ρ 85 k := by unfold Ust; rw [pn_up_k _ _ _ _ (by omega), pn_up_k _ _ _ _ (by omega), pn_up_k _ _ _ _ (by omega), pn_up_k _ _ _ _ (by omega), pn_up_k _ _ _ _ (by omega)]
theorem Ust_v {ρ : pn_S} {n : Nat} : Ust ρ n 85 0 = 0 ∧ Ust ρ n 85 9 = 0 ∧ Ust ρ n 85 10 = nI 0 ∧ Ust ρ n 85 11 = nI n ∧ Ust ρ n 85 16 = 0 := ⟨rfl, rfl, rfl, rfl, rfl⟩
theorem r_all {ρ : pn_S} {n : Nat} (h9 : ρ 85 9 = nI n) (v : Int32) : fX11_readAll v ρ = (fX11_blanks (Ust ρ n)).bind fun σ2 => if (σ2 85 10) = (σ2 85 11) then some ((0 : Int32), σ2) else fX11_readAll_28 5000 v (0 : Int32) σ2 := by
  unfold fX11_readAll fX11_uses
  rw [Option.bind_some, pn_up_k _ _ _ _ (by omega), h9]
  rfl
theorem Ust_RJ {ρ : pn_S} {n : Nat} : RJ (ρ 91) n 0 (Ust ρ n) := ⟨rfl, rfl, Ust_i (by omega), by omega⟩
theorem ag_village : Ag fX10_village fX11_village hL_village := by
  intro σ h Λ hI
  obtain ⟨n, t1, t2, t3, t4⟩ := hI.2.2.2.2.2.1
  have hw := hI.2.1
  obtain ⟨σ2, m, s1, s2, s3, s4, s5, s6⟩ := c_text hI t1 t2 t4
  have hb : HB (fun i => σ 91 i &&& 255) (σ 91) n := ⟨t1, fun i hi => ⟨rfl, (t4 i hi).2⟩⟩
  have cv2 : CV σ2 5 (σ 86) := cv_fr hI.1 (s6 5 (by omega)) (s6 6 (by omega)) (s6 7 (by omega))
  obtain ⟨c1, c2, c3⟩ := c_copy (v := 8) cv2 hw (by omega)
  have ev : fX10_village σ = pn_bi (fX4_readLines_35 14 (cpV σ2 8 5)) fun x4 σ4 => if x4 = 0 then some (.inr "java/lang/IllegalArgumentException", (pn_up σ4 0 15 (σ4 1 7))) else if ((pn_up σ4 0 15 (σ4 1 7)) 5 3) < (12 : Int32) then (fX8_copy 5 8 (pn_up σ4 0 15 (σ4 1 7))).bind fun σ7 => (fX5_forget (pn_up σ7 5 3 ((σ7 5 3) + (1 : Int32)))).bind fun σ8 => some (.inl (σ8 5 3), σ8) else some (.inr "java/lang/UnsupportedOperationException", (pn_up σ4 0 15 (σ4 1 7))) := by
    unfold fX10_village
    rw [← Option.bind_assoc, s1, Option.bind_some, c1, Option.bind_some]
  generalize hσ3 : cpV σ2 8 5 = σ3 at c2 c3 ev
  have cj : CJ n (σ2 3) (σ2 4) m 0 σ3 := s2.fr (c3 1 (by omega)) (c3 3 (by omega)) (c3 4 (by omega))
  -- the reference's reading, from any state with the same tape and village
  have both : ∀ ρ : pn_S, ρ 91 = σ 91 → ρ 86 = σ 86 → JA n σ3 (Ust ρ n) (fX4_readLines_35 14 σ3) ((fX11_blanks (Ust ρ n)).bind fun σ2 => if (σ2 85 10) = (σ2 85 11) then some ((0 : Int32), σ2) else fX11_readAll_28 5000 1 (0 : Int32) σ2) := fun ρ r1 r2 => by
    have e86 : Ust ρ n 86 = σ 86 := (Ust_i (by omega)).trans r2
    have rj := Ust_RJ (ρ := ρ) (n := n)
    rw [r1] at rj
    exact j_all hb ⟨cj, rj, s3, s4⟩ (by rw [e86]; exact c2) (by rw [e86]; exact hw)
  have fr3 : ∀ i, i ≠ 1 → i ≠ 3 → i ≠ 4 → i ≠ 8 → i ≠ 9 → i ≠ 10 → σ3 i = σ i := fun i q1 q2 q3 q4 q5 q6 => (c3 i (by omega)).trans (s6 i (by omega))
  have s13 : σ3 1 3 = 0 := by rw [c3 1 (by omega)]; exact s5
  -- what the reference does with a state ρ that the class left
  have rdo : ∀ ρ : pn_S, ρ 91 = σ 91 → ρ 86 = σ 86 → ρ 85 9 = nI n → ∃ (x : Int32) (τ' : pn_S), fX11_village ρ = (if 0 ≤ x then fX11_village_46 x (-1) τ' else fX11_village_46 x (τ' 85 12) τ') ∧ FrV (Ust (pn_ua ρ 88 (cpy (ρ 88) (ρ 86) 0 1166)) n) τ' ∧ ((∃ σ4, fX4_readLines_35 14 σ3 = some (1, σ4) ∧ 0 ≤ x.toInt ∧ CV σ4 8 (τ' 86) ∧ VW (τ' 86)) ∨ (∃ σ4 p, fX4_readLines_35 14 σ3 = some (0, σ4) ∧ x = -1 ∧ σ4 1 7 = nI p ∧ τ' 85 12 = nI p)) := fun ρ r1 r2 r3 => by
    have q1 : pn_ua ρ 88 (cpy (ρ 88) (ρ 86) 0 1166) 91 = σ 91 := (pn_ua_a _ _ _ (by omega)).trans r1
    have q2 : pn_ua ρ 88 (cpy (ρ 88) (ρ 86) 0 1166) 86 = σ 86 := (pn_ua_a _ _ _ (by omega)).trans r2
    have q3 : pn_ua ρ 88 (cpy (ρ 88) (ρ 86) 0 1166) 85 9 = nI n := by rw [pn_ua_a _ _ _ (by omega)]; exact r3
    have := both _ q1 q2
    rw [← r_all q3 1] at this
    rcases this with ⟨σ4, τ', x, a1, a2, a3, a4, a5, a6, a7, a8⟩ | ⟨σ4, τ', p, a1, a2, a3, a4, a5, a6, a7⟩
    · exact ⟨x, τ', by rw [r_v2, a2, bi_some], a8, Or.inl ⟨σ4, a1, a3, a5, a6⟩⟩
    · exact ⟨-1, τ', by rw [r_v2, a2, bi_some], a7, Or.inr ⟨σ4, p, a1, rfl, a4, a5⟩⟩
  -- the world as it was, behind a refusal
  have back : ∀ ρ τ' X : pn_S, ρ 86 = σ 86 → FrV (Ust (pn_ua ρ 88 (cpy (ρ 88) (ρ 86) 0 1166)) n) τ' → (∀ i, i ≠ 85 → X i = τ' i) → pn_ua X 86 (cpy (X 86) (X 88) 0 1166) 86 = σ 86 := fun ρ τ' X r2 fv fx => by
    rw [pn_ua_s, fx 86 (by omega), fx 88 (by omega), fv.1 88 (by omega) (by omega), Ust_i (by omega), pn_ua_s, r2]
    funext j
    by_cases q : j < 1166
    · rw [cpy_lo q, cpy_lo q]
    · have e : cpy (τ' 86) (cpy (ρ 88) (σ 86) 0 1166) 0 1166 j = τ' 86 j := by unfold cpy; rw [if_neg (by omega)]
      rw [e, fv.2.2.1 j (by omega), Ust_i (by omega), pn_ua_a _ _ _ (by omega), r2]
  rcases both σ rfl rfl with ⟨σ4, τ0, x0, a1, _, _, a4, _, _, a7, _⟩ | ⟨σ4, τ0, p, a1, _, a3, a4, _, a6, _⟩
  · rw [a1, bi_some, if_neg (by decide), a4] at ev
    have fr4 : ∀ i, i ≠ 1 → i ≠ 3 → i ≠ 4 → i ≠ 8 → i ≠ 9 → i ≠ 10 → σ4 i = σ i := fun i q1 q2 q3 q4 q5 q6 => (a7.1 i q1 q4 q5 q6).trans (fr3 i q1 q2 q3 q4 q5 q6)
    have s413 : σ4 1 3 = 0 := (a7.2 3 (by omega) (by omega)).trans s13
    have tx : pn_up σ4 0 15 (-1) 5 3 = σ 86 1 := by rw [pn_up_a _ _ _ _ (by omega), fr4 5 (by omega) (by omega) (by omega) (by omega) (by omega) (by omega)]; exact hI.1.1.2.1
    have r1 := hw.2.1
    have r1a := r1.1
    have r1b := r1.2
    have e12 : (12 : Int32).toInt = 12 := rfl
    rw [tx] at ev
    by_cases full : σ 86 1 < 12
    · rw [if_pos full] at ev
      -- the class takes the draft
      obtain ⟨x00, τ00, _, fv00, alt⟩ := rdo σ rfl rfl t3
      have cvd : ∃ V', CV σ4 8 V' ∧ VW V' := by
        rcases alt with ⟨σ4', b1, _, b3, b4⟩ | ⟨σ4', p, b1, _⟩
        · rw [a1] at b1; cases b1; exact ⟨_, b3, b4⟩
        · rw [a1] at b1; cases b1
      obtain ⟨V0, cv0, vw0⟩ := cvd
      have cvE : CV (pn_up σ4 0 15 (-1)) 8 V0 := cv_fr cv0 (pn_up_a _ _ _ _ (by omega)) (pn_up_a _ _ _ _ (by omega)) (pn_up_a _ _ _ _ (by omega))
      obtain ⟨d1, d2, d3⟩ := c_copy (v := 5) cvE vw0 (by omega)
      rw [d1, Option.bind_some] at ev
      unfold fX5_forget at ev
      rw [Option.bind_some, pn_up_a _ _ _ _ (by omega), pn_up_s] at ev
      generalize hσ7 : cpV (pn_up σ4 0 15 (-1)) 5 8 = σ7 at d2 d3 ev
      have ev7 : ∀ V', CV σ4 8 V' → VW V' → CV σ7 5 V' := fun V' q1 q2 => by
        have := (c_copy (σ := pn_up σ4 0 15 (-1)) (v := 5) (cv_fr q1 (pn_up_a _ _ _ _ (by omega)) (pn_up_a _ _ _ _ (by omega)) (pn_up_a _ _ _ _ (by omega))) q2 (by omega)).2.1
        rw [hσ7] at this
        exact this
      refine Or.inl ⟨_, _, ev, fun y => ?_⟩
      have frE : ∀ i, i ≠ 0 → i ≠ 1 → i ≠ 3 → i ≠ 4 → i ≠ 5 → i ≠ 6 → i ≠ 7 → i ≠ 8 → i ≠ 9 → i ≠ 10 → i ≠ 41 → pn_up (pn_up σ7 5 3 (σ7 5 3 + 1)) 41 1 0 i = σ i := fun i q0 q1 q3 q4 q5 q6 q7 q8 q9 q10 q41 => by rw [pn_up_a _ _ _ _ q41, pn_up_a _ _ _ _ q5, d3 i (by omega), pn_up_a _ _ _ _ q0, fr4 i q1 q3 q4 q8 q9 q10]
      have fE : ∀ i, i ≠ 0 → i ≠ 1 → i ≠ 3 → i ≠ 4 → i ≠ 5 → i ≠ 6 → i ≠ 7 → i ≠ 8 → i ≠ 9 → i ≠ 10 → i ≠ 41 → i ≠ 96 → pn_up (pn_up (pn_up σ7 5 3 (σ7 5 3 + 1)) 41 1 0) 96 0 y i = σ i := fun i q0 q1 q3 q4 q5 q6 q7 q8 q9 q10 q41 q96 => by rw [pn_up_a _ _ _ _ q96]; exact frE i q0 q1 q3 q4 q5 q6 q7 q8 q9 q10 q41
      have c0 : ∀ k, pn_up (pn_up (pn_up σ7 5 3 (σ7 5 3 + 1)) 41 1 0) 96 0 y 0 k = if k = 15 then -1 else σ 0 k := fun k => by
        rw [pn_up_a _ _ _ _ (by omega), pn_up_a _ _ _ _ (by omega), pn_up_a _ _ _ _ (by omega), d3 0 (by omega)]
        by_cases q : k = 15
        · rw [if_pos q, q, pn_up_s]
        · rw [if_neg q, pn_up_k _ _ _ _ q, fr4 0 (by omega) (by omega) (by omega) (by omega) (by omega) (by omega)]
      have c13 : pn_up (pn_up (pn_up σ7 5 3 (σ7 5 3 + 1)) 41 1 0) 96 0 y 1 3 = 0 := by rw [pn_up_a _ _ _ _ (by omega), pn_up_a _ _ _ _ (by omega), pn_up_a _ _ _ _ (by omega), d3 1 (by omega), pn_up_a _ _ _ _ (by omega)]; exact s413
      have c41 : pn_up (pn_up (pn_up σ7 5 3 (σ7 5 3 + 1)) 41 1 0) 96 0 y 41 1 = 0 ∧ pn_up (pn_up (pn_up σ7 5 3 (σ7 5 3 + 1)) 41 1 0) 96 0 y 41 2 = σ 41 2 := ⟨by rw [pn_up_a _ _ _ _ (by omega), pn_up_s], by rw [pn_up_a _ _ _ _ (by omega), pn_up_k _ _ _ _ (by omega), pn_up_a _ _ _ _ (by omega), d3 41 (by omega), pn_up_a _ _ _ _ (by omega), fr4 41 (by omega) (by omega) (by omega) (by omega) (by omega) (by omega)]⟩
      have c96 : pn_up (pn_up (pn_up σ7 5 3 (σ7 5 3 + 1)) 41 1 0) 96 0 y 96 0 = y := pn_up_s _ _ _ _
      have c5 : ∀ i, i = 5 ∨ i = 6 ∨ i = 7 → pn_up (pn_up (pn_up σ7 5 3 (σ7 5 3 + 1)) 41 1 0) 96 0 y i = pn_up σ7 5 3 (σ7 5 3 + 1) i := fun i hi => by rw [pn_up_a _ _ _ _ (by omega), pn_up_a _ _ _ _ (by omega)]
      generalize pn_up (pn_up (pn_up σ7 5 3 (σ7 5 3 + 1)) 41 1 0) 96 0 y = ρ at fE c0 c13 c41 c96 c5
      have g91 := fE 91 (by omega) (by omega) (by omega) (by omega) (by omega) (by omega) (by omega) (by omega) (by omega) (by omega) (by omega) (by omega)
      have g86 := fE 86 (by omega) (by omega) (by omega) (by omega) (by omega) (by omega) (by omega) (by omega) (by omega) (by omega) (by omega) (by omega)
      have g85 := fE 85 (by omega) (by omega) (by omega) (by omega) (by omega) (by omega) (by omega) (by omega) (by omega) (by omega) (by omega) (by omega)
      obtain ⟨x, τ', e1, fv, alt⟩ := rdo ρ g91 g86 (by rw [g85]; exact t3)
      rcases alt with ⟨σ4', b1, b2, b3, b4⟩ | ⟨σ4', p, b1, _⟩
      rotate_left
      · rw [a1] at b1; cases b1
      rw [a1] at b1
      cases b1
      have px : (0 : Int32) ≤ x := by rw [q_le]; exact b2
      have t86 : τ' 86 1 = σ 86 1 := by rw [fv.2.2.2, Ust_i (by omega), pn_ua_a _ _ _ (by omega), g86]
      have s75 : σ7 5 3 = τ' 86 1 := (ev7 _ b3 b4).1.2.1
      have ne12 : ¬ σ 86 1 = 12 := fun z => by rw [z] at full; exact absurd full (by decide)
      have eR : fX11_village ρ = some (τ' 86 1 + 1, pn_up (pn_up (pn_up τ' 85 14 (-1)) 86 1 (τ' 86 1 + 1)) 85 7 0) := by
        rw [e1, if_pos px]
        unfold fX11_village_46 fX11_village_59 fX11_village_83
        have u86 : pn_up τ' 85 14 (-1) 86 = τ' 86 := pn_up_a _ _ _ _ (by omega)
        rw [if_pos px, r_t0, bi_some, if_pos rfl, u86, t86, if_neg ne12, r_t0, bi_some, if_pos rfl, pn_up_a _ _ _ _ (by omega), pn_up_s, u86, t86]
      refine ⟨_, h, Λ, by rw [eR, s75], ?_, ?_, ?_⟩
      · rw [pn_up_k _ _ _ _ (by omega), pn_up_a _ _ _ _ (by omega), pn_up_k _ _ _ _ (by omega), fv.2.1 0 (by omega) (by omega)]
        exact Ust_v.1
      · rw [pn_up_a _ _ _ _ (by omega), pn_up_a _ _ _ _ (by omega), pn_up_a _ _ _ _ (by omega), fv.1 96 (by omega) (by omega), Ust_i (by omega), pn_ua_a _ _ _ (by omega)]
        exact c96
      · have z : ∀ i, i ≠ 85 → i ≠ 86 → i ≠ 88 → pn_up (pn_up (pn_up τ' 85 14 (-1)) 86 1 (τ' 86 1 + 1)) 85 7 0 i = ρ i := fun i q1 q2 q3 => by rw [pn_up_a _ _ _ _ q1, pn_up_a _ _ _ _ q2, pn_up_a _ _ _ _ q1, fv.1 i q1 q2, Ust_i q1, pn_ua_a _ _ _ q3]
        have z86 : pn_up (pn_up (pn_up τ' 85 14 (-1)) 86 1 (τ' 86 1 + 1)) 85 7 0 86 = upd (τ' 86) 1 (τ' 86 1 + 1) := by rw [pn_up_a _ _ _ _ (by omega), pn_up_row, pn_up_a _ _ _ _ (by omega)]
        have z85 : ∀ k, k = 6 ∨ k = 9 → pn_up (pn_up (pn_up τ' 85 14 (-1)) 86 1 (τ' 86 1 + 1)) 85 7 0 85 k = Ust (pn_ua ρ 88 (cpy (ρ 88) (ρ 86) 0 1166)) n 85 k := fun k hk => by rw [pn_up_k _ _ _ _ (by omega), pn_up_a _ _ _ _ (by omega), pn_up_k _ _ _ _ (by omega), fv.2.1 k (by omega) (by omega)]
        have z7 : pn_up (pn_up (pn_up τ' 85 14 (-1)) 86 1 (τ' 86 1 + 1)) 85 7 0 85 7 = 0 := pn_up_s _ _ _ _
        have z14 : pn_up (pn_up (pn_up τ' 85 14 (-1)) 86 1 (τ' 86 1 + 1)) 85 7 0 85 14 = -1 := by rw [pn_up_k _ _ _ _ (by omega), pn_up_a _ _ _ _ (by omega), pn_up_s]
        generalize pn_up (pn_up (pn_up τ' 85 14 (-1)) 86 1 (τ' 86 1 + 1)) 85 7 0 = Z at z z86 z85 z7 z14
        have z6 : Z 85 6 = σ 85 6 := by rw [z85 6 (by omega), Ust_k (by omega), pn_ua_a _ _ _ (by omega), g85]
        have zz : ∀ i, i ≠ 0 → i ≠ 1 → i ≠ 3 → i ≠ 4 → i ≠ 5 → i ≠ 6 → i ≠ 7 → i ≠ 8 → i ≠ 9 → i ≠ 10 → i ≠ 41 → i ≠ 96 → i ≠ 85 → i ≠ 86 → i ≠ 88 → Z i = σ i := fun i q0 q1 q3 q4 q5 q6 q7 q8 q9 q10 q41 q96 r1 r2 r3 => (z i r1 r2 r3).trans (fE i q0 q1 q3 q4 q5 q6 q7 q8 q9 q10 q41 q96)
        obtain ⟨m0, x1, W, p1, p2, p3⟩ := pst_to hI.2.2.2.2.2.2.1
        obtain ⟨gi1, gi2, gi3⟩ := hI.2.2.2.2.2.2.2.1
        have cv5 : CV (pn_up σ7 5 3 (σ7 5 3 + 1)) 5 (upd (τ' 86) 1 (τ' 86 1 + 1)) := by rw [s75]; exact cv_fld (ev7 _ b3 b4) 3 1 _ (by omega)
        have kp : Kp (upd (τ' 86) 1 (τ' 86 1 + 1)) (σ 86) := (Kp_up (by omega)).tr (fv.2.2.1.tr (by rw [Ust_i (by omega), pn_ua_a _ _ _ (by omega), g86]; exact Kp.rf))
        have e1t : (τ' 86 1 + 1).toInt = (σ 86 1).toInt + 1 := by
          have one : (1 : Int32).toInt = 1 := rfl
          rw [t86, q_add (by omega) (by omega), one]
        have fl : (σ 86 1).toInt < 12 := by rw [q_lt] at full; exact full
        unfold Inv
        rw [z86]
        refine ⟨cv_fr cv5 ((z 5 (by omega) (by omega) (by omega)).trans (c5 5 (by omega))) ((z 6 (by omega) (by omega) (by omega)).trans (c5 6 (by omega))) ((z 7 (by omega) (by omega) (by omega)).trans (c5 7 (by omega))), vw_f b4 (by omega) (by omega) (Or.inr (Or.inr ⟨by show (0 : Int) ≤ _; omega, by show _ ≤ (12 : Int); omega⟩)), cl_fr hI.2.2.1 (by rw [zz 14 (by omega) (by omega) (by omega) (by omega) (by omega) (by omega) (by omega) (by omega) (by omega) (by omega) (by omega) (by omega) (by omega) (by omega) (by omega)]) (zz 15 (by omega) (by omega) (by omega) (by omega) (by omega) (by omega) (by omega) (by omega) (by omega) (by omega) (by omega) (by omega) (by omega) (by omega) (by omega)) (zz 16 (by omega) (by omega) (by omega) (by omega) (by omega) (by omega) (by omega) (by omega) (by omega) (by omega) (by omega) (by omega) (by omega) (by omega) (by omega)) (zz 17 (by omega) (by omega) (by omega) (by omega) (by omega) (by omega) (by omega) (by omega) (by omega) (by omega) (by omega) (by omega) (by omega) (by omega) (by omega)) (zz 18 (by omega) (by omega) (by omega) (by omega) (by omega) (by omega) (by omega) (by omega) (by omega) (by omega) (by omega) (by omega) (by omega) (by omega) (by omega)), rl_V hI.2.2.2.1 kp, hI.2.2.2.2.1, ⟨0, by omega, by rw [z 1 (by omega) (by omega) (by omega)]; exact c13, by rw [z85 9 (by omega)]; exact Ust_v.2.1, fun i hi => by omega⟩, ?_, ⟨?_, ?_, fun q => ?_⟩, ?_⟩
        · exact pst_of (m := 0) (x := x1) (W := W) ⟨by omega, p1.2.1, by rw [z 41 (by omega) (by omega) (by omega)]; exact c41.1, by rw [z 41 (by omega) (by omega) (by omega), c41.2]; exact p1.2.2.2.1, fun j hj => by omega⟩ ⟨z7, fun j hj => by omega⟩ fun j hj => by omega
        · rw [z 0 (by omega) (by omega) (by omega), c0, if_neg (by omega), z6]; exact gi1
        · rw [z6]; exact gi2
        · rw [z6] at q
          obtain ⟨h', Λ', q1, q2, q3, q4, q5⟩ := gi3 q
          have z87 : Z 87 = σ 87 := zz 87 (by omega) (by omega) (by omega) (by omega) (by omega) (by omega) (by omega) (by omega) (by omega) (by omega) (by omega) (by omega) (by omega) (by omega) (by omega)
          rw [z87]
          exact ⟨h', Λ', cv_fr q1 (zz 11 (by omega) (by omega) (by omega) (by omega) (by omega) (by omega) (by omega) (by omega) (by omega) (by omega) (by omega) (by omega) (by omega) (by omega) (by omega)) (zz 12 (by omega) (by omega) (by omega) (by omega) (by omega) (by omega) (by omega) (by omega) (by omega) (by omega) (by omega) (by omega) (by omega) (by omega) (by omega)) (zz 13 (by omega) (by omega) (by omega) (by omega) (by omega) (by omega) (by omega) (by omega) (by omega) (by omega) (by omega) (by omega) (by omega) (by omega) (by omega)), q2, cl_fr q3 (by rw [zz 28 (by omega) (by omega) (by omega) (by omega) (by omega) (by omega) (by omega) (by omega) (by omega) (by omega) (by omega) (by omega) (by omega) (by omega) (by omega)]) (zz 29 (by omega) (by omega) (by omega) (by omega) (by omega) (by omega) (by omega) (by omega) (by omega) (by omega) (by omega) (by omega) (by omega) (by omega) (by omega)) (zz 30 (by omega) (by omega) (by omega) (by omega) (by omega) (by omega) (by omega) (by omega) (by omega) (by omega) (by omega) (by omega) (by omega) (by omega) (by omega)) (zz 31 (by omega) (by omega) (by omega) (by omega) (by omega) (by omega) (by omega) (by omega) (by omega) (by omega) (by omega) (by omega) (by omega) (by omega) (by omega)) (zz 32 (by omega) (by omega) (by omega) (by omega) (by omega) (by omega) (by omega) (by omega) (by omega) (by omega) (by omega) (by omega) (by omega) (by omega) (by omega)), q4, q5⟩
        · rw [z 0 (by omega) (by omega) (by omega), c0, if_pos rfl, z14]
    · rw [if_neg full] at ev
      have f12 : σ 86 1 = 12 := q_eq.mpr (by rw [q_lt] at full; omega)
      have g91 : pn_up σ4 0 15 (-1) 91 = σ 91 := by rw [pn_up_a _ _ _ _ (by omega), fr4 91 (by omega) (by omega) (by omega) (by omega) (by omega) (by omega)]
      have g86 : pn_up σ4 0 15 (-1) 86 = σ 86 := by rw [pn_up_a _ _ _ _ (by omega), fr4 86 (by omega) (by omega) (by omega) (by omega) (by omega) (by omega)]
      have g85 : pn_up σ4 0 15 (-1) 85 = σ 85 := by rw [pn_up_a _ _ _ _ (by omega), fr4 85 (by omega) (by omega) (by omega) (by omega) (by omega) (by omega)]
      obtain ⟨x, τ', e1, fv, alt⟩ := rdo (pn_up σ4 0 15 (-1)) g91 g86 (by rw [g85]; exact t3)
      rcases alt with ⟨σ4', b1, b2, b3, b4⟩ | ⟨σ4', p, b1, _⟩
      rotate_left
      · rw [a1] at b1; cases b1
      have px : (0 : Int32) ≤ x := by rw [q_le]; exact b2
      have t86 : τ' 86 1 = 12 := by rw [fv.2.2.2, Ust_i (by omega), pn_ua_a _ _ _ (by omega), g86, f12]
      have eR : fX11_village (pn_up σ4 0 15 (-1)) = some (0, pn_ua (pn_up (pn_up τ' 85 14 (-1)) 85 0 2) 86 (cpy (pn_up (pn_up τ' 85 14 (-1)) 85 0 2 86) (pn_up (pn_up τ' 85 14 (-1)) 85 0 2 88) 0 1166)) := by
        rw [e1, if_pos px]
        unfold fX11_village_46 fX11_village_59 fX11_village_83
        have u86 : pn_up τ' 85 14 (-1) 86 1 = 12 := by rw [pn_up_a _ _ _ _ (by omega)]; exact t86
        rw [if_pos px, r_t0, bi_some, if_pos rfl, u86, if_pos rfl, r_t1, bi_some, if_neg (by decide), r_v92]
      have zb := back (pn_up σ4 0 15 (-1)) τ' (pn_up (pn_up τ' 85 14 (-1)) 85 0 2) g86 fv (fun i hi => by rw [pn_up_a _ _ _ _ hi, pn_up_a _ _ _ _ hi])
      have z : ∀ i, i ≠ 85 → i ≠ 86 → i ≠ 88 → pn_ua (pn_up (pn_up τ' 85 14 (-1)) 85 0 2) 86 (cpy (pn_up (pn_up τ' 85 14 (-1)) 85 0 2 86) (pn_up (pn_up τ' 85 14 (-1)) 85 0 2 88) 0 1166) i = pn_up σ4 0 15 (-1) i := fun i q1 q2 q3 => by rw [pn_ua_a _ _ _ q2, pn_up_a _ _ _ _ q1, pn_up_a _ _ _ _ q1, fv.1 i q1 q2, Ust_i q1, pn_ua_a _ _ _ q3]
      have z85 : ∀ k, k = 6 ∨ k = 7 ∨ k = 9 → pn_ua (pn_up (pn_up τ' 85 14 (-1)) 85 0 2) 86 (cpy (pn_up (pn_up τ' 85 14 (-1)) 85 0 2 86) (pn_up (pn_up τ' 85 14 (-1)) 85 0 2 88) 0 1166) 85 k = Ust (pn_ua (pn_up σ4 0 15 (-1)) 88 (cpy (pn_up σ4 0 15 (-1) 88) (pn_up σ4 0 15 (-1) 86) 0 1166)) n 85 k := fun k hk => by rw [pn_ua_a _ _ _ (by omega), pn_up_k _ _ _ _ (by omega), pn_up_k _ _ _ _ (by omega), fv.2.1 k (by omega) (by omega)]
      have z0 : pn_ua (pn_up (pn_up τ' 85 14 (-1)) 85 0 2) 86 (cpy (pn_up (pn_up τ' 85 14 (-1)) 85 0 2 86) (pn_up (pn_up τ' 85 14 (-1)) 85 0 2 88) 0 1166) 85 0 = 2 := by rw [pn_ua_a _ _ _ (by omega), pn_up_s]
      have z14 : pn_ua (pn_up (pn_up τ' 85 14 (-1)) 85 0 2) 86 (cpy (pn_up (pn_up τ' 85 14 (-1)) 85 0 2 86) (pn_up (pn_up τ' 85 14 (-1)) 85 0 2 88) 0 1166) 85 14 = -1 := by rw [pn_ua_a _ _ _ (by omega), pn_up_k _ _ _ _ (by omega), pn_up_s]
      refine Or.inr ⟨_, _, 0, _, h, Λ, ev, eR, by rw [z0]; exact (if_neg (by decide)).trans (if_pos rfl), by rw [z0]; decide, ?_⟩
      generalize pn_ua (pn_up (pn_up τ' 85 14 (-1)) 85 0 2) 86 (cpy (pn_up (pn_up τ' 85 14 (-1)) 85 0 2 86) (pn_up (pn_up τ' 85 14 (-1)) 85 0 2 88) 0 1166) = Z at zb z z85 z0 z14
      have zz : ∀ i, i ≠ 0 → i ≠ 1 → i ≠ 3 → i ≠ 4 → i ≠ 8 → i ≠ 9 → i ≠ 10 → i ≠ 85 → i ≠ 86 → i ≠ 88 → Z i = σ i := fun i q0 q1 q3 q4 q8 q9 q10 r1 r2 r3 => by rw [z i r1 r2 r3, pn_up_a _ _ _ _ q0, fr4 i q1 q3 q4 q8 q9 q10]
      refine inv_U hI ⟨fun i hi => ?_, ?_, ?_, ?_, ?_, ?_, ?_, ?_⟩ ⟨0, by omega, ?_, ?_, fun i hi => by omega⟩ ?_
      · by_cases q : i = 86
        · rw [q]; exact zb
        · exact zz i (by omega) (by omega) (by omega) (by omega) (by omega) (by omega) (by omega) (by omega) q (by omega)
      · rw [z 0 (by omega) (by omega) (by omega), pn_up_k _ _ _ _ (by omega), fr4 0 (by omega) (by omega) (by omega) (by omega) (by omega) (by omega)]
      · rw [zz 14 (by omega) (by omega) (by omega) (by omega) (by omega) (by omega) (by omega) (by omega) (by omega) (by omega)]
      · rw [zz 28 (by omega) (by omega) (by omega) (by omega) (by omega) (by omega) (by omega) (by omega) (by omega) (by omega)]
      · rw [zz 41 (by omega) (by omega) (by omega) (by omega) (by omega) (by omega) (by omega) (by omega) (by omega) (by omega)]
      · rw [zz 41 (by omega) (by omega) (by omega) (by omega) (by omega) (by omega) (by omega) (by omega) (by omega) (by omega)]
      · rw [z85 6 (by omega), Ust_k (by omega), pn_ua_a _ _ _ (by omega), g85]
      · rw [z85 7 (by omega), Ust_k (by omega), pn_ua_a _ _ _ (by omega), g85]
      · rw [z 1 (by omega) (by omega) (by omega), pn_up_a _ _ _ _ (by omega)]; exact s413
      · rw [z85 9 (by omega)]; exact Ust_v.2.1
      · rw [z 0 (by omega) (by omega) (by omega), pn_up_s, z14]
  · rw [a1, bi_some, if_pos rfl, a4] at ev
    have fr4 : ∀ i, i ≠ 1 → i ≠ 3 → i ≠ 4 → i ≠ 8 → i ≠ 9 → i ≠ 10 → σ4 i = σ i := fun i q1 q2 q3 q4 q5 q6 => (a6.1 i q1 q4 q5 q6).trans (fr3 i q1 q2 q3 q4 q5 q6)
    have s413 : σ4 1 3 = 0 := (a6.2 3 (by omega) (by omega)).trans s13
    have g91 : pn_up σ4 0 15 (nI p) 91 = σ 91 := by rw [pn_up_a _ _ _ _ (by omega), fr4 91 (by omega) (by omega) (by omega) (by omega) (by omega) (by omega)]
    have g86 : pn_up σ4 0 15 (nI p) 86 = σ 86 := by rw [pn_up_a _ _ _ _ (by omega), fr4 86 (by omega) (by omega) (by omega) (by omega) (by omega) (by omega)]
    have g85 : pn_up σ4 0 15 (nI p) 85 = σ 85 := by rw [pn_up_a _ _ _ _ (by omega), fr4 85 (by omega) (by omega) (by omega) (by omega) (by omega) (by omega)]
    obtain ⟨x, τ', e1, fv, alt⟩ := rdo (pn_up σ4 0 15 (nI p)) g91 g86 (by rw [g85]; exact t3)
    rcases alt with ⟨σ4', b1, _⟩ | ⟨σ4', p', b1, b2, b3, b4⟩
    · rw [a1] at b1; cases b1
    rw [a1] at b1
    cases b1
    rw [a4] at b3
    rw [← b3] at b4
    subst b2
    have eR : fX11_village (pn_up σ4 0 15 (nI p)) = some (0, pn_ua (pn_up (pn_up τ' 85 14 (nI p)) 85 0 1) 86 (cpy (pn_up (pn_up τ' 85 14 (nI p)) 85 0 1 86) (pn_up (pn_up τ' 85 14 (nI p)) 85 0 1 88) 0 1166)) := by
      rw [e1, if_neg (by decide), b4]
      unfold fX11_village_46 fX11_village_59
      rw [if_neg (by decide), r_t1, bi_some, if_neg (by decide), r_v92]
    have zb := back (pn_up σ4 0 15 (nI p)) τ' (pn_up (pn_up τ' 85 14 (nI p)) 85 0 1) g86 fv (fun i hi => by rw [pn_up_a _ _ _ _ hi, pn_up_a _ _ _ _ hi])
    have z : ∀ i, i ≠ 85 → i ≠ 86 → i ≠ 88 → pn_ua (pn_up (pn_up τ' 85 14 (nI p)) 85 0 1) 86 (cpy (pn_up (pn_up τ' 85 14 (nI p)) 85 0 1 86) (pn_up (pn_up τ' 85 14 (nI p)) 85 0 1 88) 0 1166) i = pn_up σ4 0 15 (nI p) i := fun i q1 q2 q3 => by rw [pn_ua_a _ _ _ q2, pn_up_a _ _ _ _ q1, pn_up_a _ _ _ _ q1, fv.1 i q1 q2, Ust_i q1, pn_ua_a _ _ _ q3]
    have z85 : ∀ k, k = 6 ∨ k = 7 ∨ k = 9 → pn_ua (pn_up (pn_up τ' 85 14 (nI p)) 85 0 1) 86 (cpy (pn_up (pn_up τ' 85 14 (nI p)) 85 0 1 86) (pn_up (pn_up τ' 85 14 (nI p)) 85 0 1 88) 0 1166) 85 k = Ust (pn_ua (pn_up σ4 0 15 (nI p)) 88 (cpy (pn_up σ4 0 15 (nI p) 88) (pn_up σ4 0 15 (nI p) 86) 0 1166)) n 85 k := fun k hk => by rw [pn_ua_a _ _ _ (by omega), pn_up_k _ _ _ _ (by omega), pn_up_k _ _ _ _ (by omega), fv.2.1 k (by omega) (by omega)]
    have z0 : pn_ua (pn_up (pn_up τ' 85 14 (nI p)) 85 0 1) 86 (cpy (pn_up (pn_up τ' 85 14 (nI p)) 85 0 1 86) (pn_up (pn_up τ' 85 14 (nI p)) 85 0 1 88) 0 1166) 85 0 = 1 := by rw [pn_ua_a _ _ _ (by omega), pn_up_s]
    have z14 : pn_ua (pn_up (pn_up τ' 85 14 (nI p)) 85 0 1) 86 (cpy (pn_up (pn_up τ' 85 14 (nI p)) 85 0 1 86) (pn_up (pn_up τ' 85 14 (nI p)) 85 0 1 88) 0 1166) 85 14 = nI p := by rw [pn_ua_a _ _ _ (by omega), pn_up_k _ _ _ _ (by omega), pn_up_s]
    refine Or.inr ⟨_, _, 0, _, h, Λ, ev, eR, by rw [z0]; exact if_pos rfl, by rw [z0]; decide, ?_⟩
    generalize pn_ua (pn_up (pn_up τ' 85 14 (nI p)) 85 0 1) 86 (cpy (pn_up (pn_up τ' 85 14 (nI p)) 85 0 1 86) (pn_up (pn_up τ' 85 14 (nI p)) 85 0 1 88) 0 1166) = Z at zb z z85 z0 z14
    have zz : ∀ i, i ≠ 0 → i ≠ 1 → i ≠ 3 → i ≠ 4 → i ≠ 8 → i ≠ 9 → i ≠ 10 → i ≠ 85 → i ≠ 86 → i ≠ 88 → Z i = σ i := fun i q0 q1 q3 q4 q8 q9 q10 r1 r2 r3 => by rw [z i r1 r2 r3, pn_up_a _ _ _ _ q0, fr4 i q1 q3 q4 q8 q9 q10]
    refine inv_U hI ⟨fun i hi => ?_, ?_, ?_, ?_, ?_, ?_, ?_, ?_⟩ ⟨0, by omega, ?_, ?_, fun i hi => by omega⟩ ?_
    · by_cases q : i = 86
      · rw [q]; exact zb
      · exact zz i (by omega) (by omega) (by omega) (by omega) (by omega) (by omega) (by omega) (by omega) q (by omega)
    · rw [z 0 (by omega) (by omega) (by omega), pn_up_k _ _ _ _ (by omega), fr4 0 (by omega) (by omega) (by omega) (by omega) (by omega) (by omega)]
    · rw [zz 14 (by omega) (by omega) (by omega) (by omega) (by omega) (by omega) (by omega) (by omega) (by omega) (by omega)]
    · rw [zz 28 (by omega) (by omega) (by omega) (by omega) (by omega) (by omega) (by omega) (by omega) (by omega) (by omega)]
    · rw [zz 41 (by omega) (by omega) (by omega) (by omega) (by omega) (by omega) (by omega) (by omega) (by omega) (by omega)]
    · rw [zz 41 (by omega) (by omega) (by omega) (by omega) (by omega) (by omega) (by omega) (by omega) (by omega) (by omega)]
    · rw [z85 6 (by omega), Ust_k (by omega), pn_ua_a _ _ _ (by omega), g85]
    · rw [z85 7 (by omega), Ust_k (by omega), pn_ua_a _ _ _ (by omega), g85]
    · rw [z 1 (by omega) (by omega) (by omega), pn_up_a _ _ _ _ (by omega)]; exact s413
    · rw [z85 9 (by omega)]; exact Ust_v.2.1
    · rw [z 0 (by omega) (by omega) (by omega), pn_up_s, z14]
