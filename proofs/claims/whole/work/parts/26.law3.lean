/-! PURE: the class weighs -/
/-- the same but for the scratch of the law w: its stack, its facts, its height, its needs and pans -/
def FrW (w : Nat) (σ σ' : pn_S) : Prop := (∀ i, i ≠ w → i ≠ w + 5 → i ≠ w + 6 → σ' i = σ i) ∧ ∀ k, k ≠ 8 → k ≠ 9 → k ≠ 10 → σ' w k = σ w k
theorem FrW.rf {w : Nat} {σ : pn_S} : FrW w σ σ := ⟨fun _ _ _ _ => rfl, fun _ _ _ _ => rfl⟩
theorem FrW.tr {w : Nat} {a b c : pn_S} (h : FrW w a b) (h2 : FrW w b c) : FrW w a c := ⟨fun i h3 h4 h5 => (h2.1 i h3 h4 h5).trans (h.1 i h3 h4 h5), fun k h3 h4 h5 => (h2.2 k h3 h4 h5).trans (h.2 k h3 h4 h5)⟩
theorem FrH.W {w : Nat} {a b : pn_S} (h : FrH w a b) : FrW w a b := ⟨fun i h1 h2 _ => h.1 i h1 h2, fun k h1 _ _ => h.2 k h1⟩
theorem FrW_up {w k : Nat} {a : pn_S} {x : Int32} (hk : k = 9 ∨ k = 10) : FrW w a (pn_up a w k x) := ⟨fun i h1 _ _ => pn_up_a _ _ _ _ h1, fun j h1 h2 h3 => pn_up_k _ _ _ _ (by omega)⟩
theorem cl_W {σ σ' : pn_S} {w : Nat} {h : Bool} {Λ : pn_La} (hC : CL σ w h Λ) (hf : FrW w σ σ') : CL σ' w h Λ :=
  cl_fr hC (hf.2 6 (by omega) (by omega) (by omega)) (hf.1 _ (by omega) (by omega) (by omega)) (hf.1 _ (by omega) (by omega) (by omega)) (hf.1 _ (by omega) (by omega) (by omega)) (hf.1 _ (by omega) (by omega) (by omega))
theorem c_weigh_loop {w v : Nat} {h0 : Bool} {Λ : pn_La} {F : Nat → Int32} {thr : Int32} (hL : LW Λ) (hW : FW F) : ∀ (k i : Nat) (f : Nat) (σ : pn_S), i + k = Λ.1 → k < f → CL σ w h0 Λ → (∀ op, isF op = true → σ (w + 6) (op - 1000).toNatClampNeg = F (op - 1000).toNatClampNeg) →
    σ w 9 = thr + lsum Λ F 0 i - lsum Λ F 1 i → σ w 10 = 1 + lsum Λ F 2 i →
    ∃ σ', fX2_weigh_25 w v f (nI i) σ = some σ' ∧ (σ' w 9 = if 0 < thr + lsum Λ F 0 Λ.1 - lsum Λ F 1 Λ.1 then thr + lsum Λ F 0 Λ.1 - lsum Λ F 1 Λ.1 else 0) ∧ σ' w 10 = 1 + lsum Λ F 2 Λ.1 ∧ FrW w σ σ' := by
  have h12 := hL.1
  intro k
  induction k with
  | zero =>
    intro i f σ hi hf hC hF h9 h10
    have hie : i = Λ.1 := by omega
    subst hie
    match f, hf with
    | f + 1, _ =>
      have hle : σ w 6 ≤ nI Λ.1 := by
        rw [hC.1]
        by_cases hh : h0 = true
        · rw [if_pos hh]; exact nI_le (Nat.le_refl _) (by omega)
        · rw [if_neg hh, q_le, nI_toInt (by omega)]
          have : (-1 : Int32).toInt = -1 := rfl
          omega
      refine ⟨pn_up σ w 9 (if 0 < σ w 9 then σ w 9 else 0), ?_, ?_, ?_, FrW_up (Or.inl rfl)⟩
      · rw [fX2_weigh_25, if_pos hle]
        unfold fX2_weigh_148
        rw [jmax]
        rfl
      · rw [pn_up_s, h9]
      · rw [pn_up_k _ _ _ _ (by omega), h10]
  | succ k ih =>
    intro i f σ hi hf hC hF h9 h10
    match f, hf with
    | f + 1, hf =>
      have hh : h0 = true := by
        cases hq : h0 with
        | true => rfl
        | false => have := hC.2.1 hq; omega
      have hnle : ¬ σ w 6 ≤ nI i := by
        rw [hC.1, if_pos hh]; exact nI_ge (by omega) (by omega)
      obtain ⟨hk, ham, hbi, hbi1⟩ := hC.2.2.1 i (by omega)
      rw [fX2_weigh_25, if_neg hnle, if_neg (show ¬ (12 : Int32) ≤ nI i from nI_ge (b := 12) (by omega) (by omega)), q_ib (by omega) (by omega), if_pos rfl, nI_1, q_ib (by omega) (by omega), if_pos rfl, nI_clamp (by omega), nI_clamp (by omega), hbi, hbi1]
      obtain ⟨σ1, g1, g2⟩ := c_holds hC hL hF hW (i := i) (by omega)
      rw [g1]
      have hC1 : CL σ1 w h0 Λ := cl_W hC g2.W
      have hF1 : ∀ op, isF op = true → σ1 (w + 6) (op - 1000).toNatClampNeg = F (op - 1000).toNatClampNeg := fun op ho => by rw [g2.1 _ (by omega) (by omega)]; exact hF op ho
      have s9 : σ1 w 9 = thr + lsum Λ F 0 i - lsum Λ F 1 i := by rw [g2.2 9 (by omega)]; exact h9
      have s10 : σ1 w 10 = 1 + lsum Λ F 2 i := by rw [g2.2 10 (by omega)]; exact h10
      obtain ⟨hk1, ham1, -, -⟩ := hC1.2.2.1 i (by omega)
      -- behind the amount
      have key : ∀ x : Int32, x = (if hold Λ F i = true then Λ.2.2.1 i else 0) → ∃ σ', fX2_weigh_75 w v (fX2_weigh_25 w v f) (nI i) x σ1 = some σ' ∧ (σ' w 9 = if 0 < thr + lsum Λ F 0 Λ.1 - lsum Λ F 1 Λ.1 then thr + lsum Λ F 0 Λ.1 - lsum Λ F 1 Λ.1 else 0) ∧ σ' w 10 = 1 + lsum Λ F 2 Λ.1 ∧ FrW w σ σ' := by
        intro x hx
        have hkd := (hL.2.2.2 i (by omega)).1
        unfold fX2_weigh_75
        rw [q_ib (by omega) (by omega), if_pos rfl, nI_clamp (by omega), hk1, if_pos rfl, nI_1]
        have z0 : ∀ a : Int32, a + 0 = a := fun a => Int32.add_zero a
        have z1 : ∀ a : Int32, a - 0 = a := fun a => Int32.sub_zero a
        by_cases k0 : Λ.2.1 i = 0
        · rw [if_pos (show nI (1016 + Λ.2.1 i) = 1016 by rw [k0]; rfl)]
          obtain ⟨σ', a1, a2, a3, a4⟩ := ih (i + 1) f (pn_up σ1 w 9 (σ1 w 9 + x)) (by omega) (by omega) (cl_W hC1 (FrW_up (Or.inl rfl))) (fun op ho => by rw [pn_up_a _ _ _ _ (by omega)]; exact hF1 op ho) (by
            rw [pn_up_s, s9, lsum_s, lsum_s, hx]
            by_cases hh : hold Λ F i = true
            · rw [if_pos hh, if_pos ⟨k0, hh⟩, if_neg (fun q => by omega)]; grind
            · rw [if_neg hh, if_neg (fun q => hh q.2), if_neg (fun q => by omega), z0]) (by
            rw [pn_up_k _ _ _ _ (by omega), s10, lsum_s, if_neg (fun q => by omega)])
          exact ⟨σ', a1, a2, a3, (g2.W.tr (FrW_up (Or.inl rfl))).tr a4⟩
        · rw [if_neg (show ¬ nI (1016 + Λ.2.1 i) = 1016 from fun q => by have := (nI_eq (b := 1016) (by omega) (by omega)).mp q; omega)]
          by_cases k1 : Λ.2.1 i = 1
          · rw [if_pos (show nI (1016 + Λ.2.1 i) = 1017 by rw [k1]; rfl)]
            obtain ⟨σ', a1, a2, a3, a4⟩ := ih (i + 1) f (pn_up σ1 w 9 (σ1 w 9 - x)) (by omega) (by omega) (cl_W hC1 (FrW_up (Or.inl rfl))) (fun op ho => by rw [pn_up_a _ _ _ _ (by omega)]; exact hF1 op ho) (by
              rw [pn_up_s, s9, lsum_s, lsum_s, hx]
              by_cases hh : hold Λ F i = true
              · rw [if_pos hh, if_neg (fun q => by omega), if_pos ⟨k1, hh⟩]; grind
              · rw [if_neg hh, if_neg (fun q => by omega), if_neg (fun q => hh q.2), z1]) (by
              rw [pn_up_k _ _ _ _ (by omega), s10, lsum_s, if_neg (fun q => by omega)])
            exact ⟨σ', a1, a2, a3, (g2.W.tr (FrW_up (Or.inl rfl))).tr a4⟩
          · rw [if_neg (show ¬ nI (1016 + Λ.2.1 i) = 1017 from fun q => by have := (nI_eq (b := 1017) (by omega) (by omega)).mp q; omega)]
            have k2 : Λ.2.1 i = 2 := by omega
            obtain ⟨σ', a1, a2, a3, a4⟩ := ih (i + 1) f (pn_up σ1 w 10 (σ1 w 10 + x)) (by omega) (by omega) (cl_W hC1 (FrW_up (Or.inr rfl))) (fun op ho => by rw [pn_up_a _ _ _ _ (by omega)]; exact hF1 op ho) (by
              rw [pn_up_k _ _ _ _ (by omega), s9, lsum_s, lsum_s, if_neg (fun q => by omega), if_neg (fun q => by omega)]) (by
              rw [pn_up_s, s10, lsum_s, hx]
              by_cases hh : hold Λ F i = true
              · rw [if_pos hh, if_pos ⟨k2, hh⟩]; grind
              · rw [if_neg hh, if_neg (fun q => hh q.2), z0])
            exact ⟨σ', a1, a2, a3, (g2.W.tr (FrW_up (Or.inr rfl))).tr a4⟩
      show ∃ σ', (if (if hold Λ F i = true then (1 : Int32) else 0) = 0 then _ else _) = some σ' ∧ _
      by_cases hh : hold Λ F i = true
      · rw [if_pos hh, if_neg (by decide), q_ib (by omega) (by omega), if_pos rfl, ham1]
        exact key _ (by rw [if_pos hh])
      · rw [if_neg hh, if_pos rfl]
        exact key _ (by rw [if_neg hh])
theorem c_weigh {σ : pn_S} {v w : Nat} {V : pn_V} {h0 : Bool} {Λ : pn_La} (h : CV σ v V) (hw : VW V) (hC : CL σ w h0 Λ) (hL : LW Λ) (hvw : v + 3 ≤ w) {p t : Nat} (hp : p < vn V) (ht : t < vn V) : ∃ σ', fX2_weigh w v (nI p) (nI t) σ = some σ' ∧ σ' w 9 = needs V Λ t p ∧ σ' w 10 = pans V Λ t p ∧ FrW w σ σ' := by
  obtain ⟨σ1, g1, g2, g3⟩ := c_facts h hw hvw hp ht
  have hcv : CV σ1 v V := cv_fr h (g3 v (by omega)) (g3 (v + 1) (by omega)) (g3 (v + 2) (by omega))
  unfold fX2_weigh
  rw [g1]
  show ∃ σ', (fX8_of v (nI p) 0 σ1).bind _ = some σ' ∧ _
  rw [q_lit 0, c_of hcv hw hp (by omega)]
  have hf : FrW w σ σ1 := ⟨fun i h1 h2 h3 => g3 i h3, fun k h1 h2 h3 => by rw [g3 w (by omega)]⟩
  have hf2 : FrW w σ (pn_up (pn_up σ1 w 9 (tr V p 0)) w 10 1) := (hf.tr (FrW_up (Or.inl rfl))).tr (FrW_up (Or.inr rfl))
  have h12 := hL.1
  obtain ⟨σ', a1, a2, a3, a4⟩ := c_weigh_loop (v := v) (thr := tr V p 0) hL (Fc_W hw (p := p) ht) Λ.1 0 5000 (pn_up (pn_up σ1 w 9 (tr V p 0)) w 10 1) (by omega) (by omega) (cl_W hC hf2) (fun op ho => by rw [pn_up_a _ _ _ _ (by omega), pn_up_a _ _ _ _ (by omega)]; exact g2 op ho) (by
    rw [pn_up_k _ _ _ _ (by omega), pn_up_s]
    show tr V p 0 = tr V p 0 + 0 - 0
    rw [Int32.add_zero, Int32.sub_zero]) (by
    rw [pn_up_s]
    show (1 : Int32) = 1 + 0
    rw [Int32.add_zero])
  exact ⟨σ', a1, a2, a3, hf2.tr a4⟩
