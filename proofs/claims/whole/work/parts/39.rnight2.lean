/-! PURE: a night; the reference -/
/-- the log shifts -/
theorem r_tells_loop {σ0 : pn_S} {t many what : Int32} (hw : VW (σ0 86)) : ∀ (k f : Nat) (σ : pn_S), k ≤ 236 → k < f → (∀ i, i ≠ 86 → σ i = σ0 i) → (∀ j, σ 86 j = if 77 + 4 + k ≤ j ∧ j < 317 then σ0 86 (j - 4) else σ0 86 j) → ∃ σ', fX11_tells_5 f t many what (nI (3 + k)) σ = some σ' ∧ σ' 86 = vsh (σ0 86) (rowS (σ0 86) t many what) ∧ Fr S86 σ0 σ' := by
  have hl := hw.l
  intro k
  induction k with
  | zero =>
    intro f σ hk hf hfr hrow
    match f, hf with
    | f + 1, _ =>
      rw [fX11_tells_5, if_pos (show nI (3 + 0) < 4 from nI_lt (b := 4) (by omega) (by omega)), jmin, Option.bind_some]
      have e3 : σ 86 3 = σ0 86 3 := by rw [hrow, if_neg (by omega)]
      have e11 : (pn_up (pn_up (pn_up (pn_up σ 86 77 (σ 86 3)) 86 78 t) 86 79 many) 86 80 what) 86 11 = nI (vl (σ0 86)) := by
        rw [pn_up_k _ _ _ _ (by omega), pn_up_k _ _ _ _ (by omega), pn_up_k _ _ _ _ (by omega), pn_up_k _ _ _ _ (by omega), hrow, if_neg (by omega)]
        exact hl.1
      rw [e11, nI_1]
      refine ⟨_, rfl, ?_, ?_⟩
      · funext j
        by_cases j11 : j = 11
        · subst j11
          rw [pn_up_s, vsh_11]
          by_cases hq : vl (σ0 86) + 1 < 60
          · rw [if_pos (show nI (vl (σ0 86) + 1) < 60 from nI_lt (b := 60) hq (by omega)), show min 60 (vl (σ0 86) + 1) = vl (σ0 86) + 1 by omega]
          · rw [if_neg (show ¬ nI (vl (σ0 86) + 1) < 60 from nI_nlt (b := 60) (by omega) (by omega)), show min 60 (vl (σ0 86) + 1) = 60 by omega]; rfl
        · rw [pn_up_k _ _ _ _ j11]
          unfold vsh rowS
          by_cases j80 : j = 80
          · subst j80; rw [pn_up_s, if_pos (by omega), if_pos (by omega)]; rfl
          rw [pn_up_k _ _ _ _ j80]
          by_cases j79 : j = 79
          · subst j79; rw [pn_up_s, if_pos (by omega), if_pos (by omega)]; rfl
          rw [pn_up_k _ _ _ _ j79]
          by_cases j78 : j = 78
          · subst j78; rw [pn_up_s, if_pos (by omega), if_pos (by omega)]; rfl
          rw [pn_up_k _ _ _ _ j78]
          by_cases j77 : j = 77
          · subst j77; rw [pn_up_s, if_pos (by omega), if_pos (by omega), e3]; rfl
          rw [pn_up_k _ _ _ _ j77, hrow]
          by_cases hc : 81 ≤ j ∧ j < 317
          · rw [if_pos (by omega), if_pos (by omega), if_neg (by omega)]
          · rw [if_neg (by omega), if_neg (by omega), if_neg j11]
      · intro i hi
        have hi : i ≠ 86 := hi
        rw [pn_up_a _ _ _ _ hi, pn_up_a _ _ _ _ hi, pn_up_a _ _ _ _ hi, pn_up_a _ _ _ _ hi, pn_up_a _ _ _ _ hi]
        exact hfr i hi
  | succ k ih =>
    intro f σ hk hf hfr hrow
    match f, hf with
    | f + 1, hf =>
      have e1 : (77 : Int32) + nI (3 + (k + 1)) = nI (81 + k) := by rw [q_lit 77, nI_add]; exact congrArg nI (by omega)
      have e2 : nI (81 + k) - 4 = nI (77 + k) := by rw [q_lit 4, pk_sub (by omega)]; exact congrArg nI (by omega)
      have e3 : nI (3 + (k + 1)) + -1 = nI (3 + k) := pk_m1 (3 + k)
      rw [fX11_tells_5, if_neg (show ¬ nI (3 + (k + 1)) < 4 from nI_nlt (b := 4) (by omega) (by omega)), e1, e2, e3, q_ib (by omega) (by omega), if_pos rfl, q_ib (by omega) (by omega), if_pos rfl, nI_clamp (by omega), nI_clamp (by omega)]
      refine ih f _ (by omega) (by omega) (fun i hi => by rw [pn_up_a _ _ _ _ hi]; exact hfr i hi) (fun j => ?_)
      by_cases hj : j = 81 + k
      · subst hj
        rw [pn_up_s, hrow, if_neg (by omega), if_pos (by omega)]
        exact congrArg (σ0 86) (by omega)
      · rw [pn_up_k _ _ _ _ hj, hrow]
        by_cases hc : 77 + 4 + (k + 1) ≤ j ∧ j < 317
        · rw [if_pos hc, if_pos (by omega)]
        · rw [if_neg hc, if_neg (by omega)]
theorem r_tells {σ : pn_S} {t many what : Int32} (hw : VW (σ 86)) : ∃ σ', fX11_tells t many what σ = some σ' ∧ σ' 86 = vsh (σ 86) (rowS (σ 86) t many what) ∧ Fr S86 σ σ' :=
  r_tells_loop hw 236 5000 σ (by omega) (by omega) (fun _ _ => rfl) (fun j => by rw [if_neg (by omega)])
theorem r_bears {σ : pn_S} {t : Nat} (hw : VW (σ 86)) (ht : t < vn (σ 86)) (h5 : σ 86 5 = nI t) : ∃ σ', fX11_bears σ = some σ' ∧ σ' 86 = bearS (σ 86) t ∧ Fr S86 σ σ' := by
  have h8 := hw.n.2
  have hne : ¬ σ 86 5 = -1 := by rw [h5]; exact nI_m1 (by omega)
  unfold fX11_bears bearS
  rw [if_neg hne, pn_up_s, pn_up_k _ _ _ _ (by omega), h5]
  by_cases q : σ 86 6 + 1 < 3
  · rw [if_neg (by rw [q_le]; rw [q_lt] at q; omega), if_pos q]
    exact ⟨_, rfl, pn_up_row _ _ _ _, F86 Fr.rf⟩
  · rw [if_pos (by rw [q_le]; rw [q_lt] at q; omega), if_neg q]
    have g4 : ∀ s : pn_S, fX11_at (nI t) 4 s = some (nI (13 + 8 * t + 4)) := fun s => r_at' (k := 4)
    rw [g4, Option.bind_some, q_ib (by omega) (by omega), if_pos rfl, nI_clamp (by omega)]
    refine ⟨pn_up (pn_up (pn_up (pn_up σ 86 6 (σ 86 6 + 1)) 86 (13 + 8 * t + 4) 0) 86 5 (-1)) 86 6 0, rfl, ?_, F86 (F86 (F86 (F86 Fr.rf)))⟩
    rw [pn_up_row, pn_up_row, pn_up_row, pn_up_row]
    rfl
