/-! PURE: the law's loop -/
theorem gt_ite {B : Nat} {p : Prop} [Decidable p] {a b : Option (Int32 × pn_S × Nat)} (h1 : p → Gets B a) (h2 : ¬ p → Gets B b) : Gets B (if p then a else b) := by
  by_cases q : p
  · rw [if_pos q]; exact h1 q
  · rw [if_neg q]; exact h2 q
theorem lw_L6 {L : Nat} (hL : L ≤ 3072) : (Int32.ofNat L - 6).toInt = (L : Int) - 6 := by
  have e : (nI L - 6).toInt = (nI L).toInt - (6 : Int32).toInt := q_sub (by rw [nI_toInt (by omega)]; show _ ≤ (L : Int) - 6; omega) (by rw [nI_toInt (by omega)]; show (L : Int) - 6 < _; omega)
  rw [nI_toInt (by omega)] at e
  exact e
theorem lw_end {L i : Nat} (hL : L ≤ 3072) (hi : i ≤ 4000) (h : L < i + 6) : Int32.ofNat L - 6 < nI i := by
  rw [q_lt, lw_L6 hL, nI_toInt (by omega)]; omega
theorem lw_go {L i : Nat} (hL : L ≤ 3072) (hi : i ≤ 4000) (h : i + 6 ≤ L) : ¬ Int32.ofNat L - 6 < nI i := by
  rw [q_lt, lw_L6 hL, nI_toInt (by omega)]; omega
theorem lw_ibs {L i : Nat} (hL : L ≤ 3072) (h : i + 6 ≤ L) : Ibs L (nI i) := by
  have e : ∀ j, pn_ib (nI i + nI j) L = pn_ib (nI (i + j)) L := fun j => by rw [nI_add]
  exact ⟨(e 1).trans (q_ib (by omega) (by omega)), (e 2).trans (q_ib (by omega) (by omega)), (e 3).trans (q_ib (by omega) (by omega)), (e 4).trans (q_ib (by omega) (by omega)), (e 5).trans (q_ib (by omega) (by omega))⟩
theorem Gets.mo {A B : Nat} {o : Option (Int32 × pn_S × Nat)} (h : Gets A o) (hAB : A ≤ B) : Gets B o := by
  obtain ⟨σ', k, e, hk⟩ := h
  exact ⟨σ', k, e, by omega⟩
theorem lw_loop (L : Nat) (xs : Nat → Int32) (hL : L ≤ 3072) : ∀ (f i : Nat) (σ : pn_S) (h : Bool) (Λ : pn_La), Inv σ h Λ → L < i + 6 * (f + 1) → i ≤ 4000 → Gets (f + 1) (fL_law__23 L xs (f + 1) (nI i) σ) := by
  intro f
  induction f with
  | zero =>
    intro i σ h Λ hI h1 h2
    rw [fL_law__23, if_pos (lw_end hL h2 (by omega))]
    exact ⟨σ, 0, rfl, by omega⟩
  | succ f ih =>
    intro i σ h Λ hI h1 h2
    rw [fL_law__23]
    by_cases q : L < i + 6
    · rw [if_pos (lw_end hL h2 q)]
      exact ⟨σ, 0, rfl, by omega⟩
    · have hK : Kont (f + 1) (fL_law__2850 L xs (fL_law__23 L xs (f + 1)) (nI i)) := fun σ h Λ hI => by
        unfold fL_law__2850
        rw [show nI i + 6 = nI (i + 6) from nI_add i 6]
        exact ih (i + 6) σ h Λ hI (by omega) (by omega)
      have ib : Ibs L (nI i) := lw_ibs hL (by omega)
      rw [if_neg (lw_go hL h2 (by omega)), if_pos (show pn_ib (nI i) L = true from q_ib (by omega) (by omega))]
      refine gt_ite (fun _ => bk_0 ib hK hI) fun _ => ?_
      refine gt_ite (fun _ => bk_1 ib hK hI) fun _ => ?_
      refine gt_ite (fun _ => bk_2 ib hK hI) fun _ => ?_
      refine gt_ite (fun _ => bk_3 ib hK hI) fun _ => ?_
      refine gt_ite (fun _ => bk_4 ib hK hI) fun _ => ?_
      refine gt_ite (fun _ => bk_5 ib hK hI) fun _ => ?_
      refine gt_ite (fun _ => bk_6 ib hK hI) fun _ => ?_
      refine gt_ite (fun _ => bk_7 ib hK hI) fun _ => ?_
      refine gt_ite (fun _ => bk_8 ib hK hI) fun _ => ?_
      refine gt_ite (fun _ => bk_9 ib hK hI) fun _ => ?_
      refine gt_ite (fun _ => bk_10 ib hK hI) fun _ => ?_
      refine gt_ite (fun _ => bk_11 ib hK hI) fun _ => ?_
      refine gt_ite (fun _ => bk_12 ib hK hI) fun _ => ?_
      refine gt_ite (fun _ => bk_13 ib hK hI) fun _ => ?_
      refine gt_ite (fun _ => bk_14 ib hK hI) fun _ => ?_
      refine gt_ite (fun _ => bk_15 ib hK hI) fun _ => ?_
      refine gt_ite (fun _ => bk_16 ib hK hI) fun _ => ?_
      refine gt_ite (fun _ => bk_17 ib hK hI) fun _ => ?_
      refine gt_ite (fun _ => bk_18 ib hK hI) fun _ => ?_
      refine gt_ite (fun _ => bk_19 ib hK hI) fun _ => ?_
      refine gt_ite (fun _ => bk_20 ib hK hI) fun _ => ?_
      refine gt_ite (fun _ => bk_21 ib hK hI) fun _ => ?_
      refine gt_ite (fun _ => bk_22 ib hK hI) fun _ => ?_
      refine gt_ite (fun _ => bk_23 ib hK hI) fun _ => ?_
      refine gt_ite (fun _ => bk_24 ib hK hI) fun _ => ?_
      refine gt_ite (fun _ => bk_25 ib hK hI) fun _ => ?_
      refine gt_ite (fun _ => bk_26 ib hK hI) fun _ => ?_
      refine gt_ite (fun _ => bk_27 ib hK hI) fun _ => ?_
      refine gt_ite (fun _ => bk_28 ib hK hI) fun _ => ?_
      refine gt_ite (fun _ => bk_29 ib hK hI) fun _ => ?_
      refine gt_ite (fun _ => bk_30 ib hK hI) fun _ => ?_
      refine gt_ite (fun _ => bk_31 ib hK hI) fun _ => ?_
      refine gt_ite (fun _ => bk_32 ib hK hI) fun _ => ?_
      refine gt_ite (fun _ => bk_33 ib hK hI) fun _ => ?_
      refine gt_ite (fun _ => bk_34 ib hK hI) fun _ => ?_
      refine gt_ite (fun _ => bk_35 ib hK hI) fun _ => ?_
      refine gt_ite (fun _ => bk_36 ib hK hI) fun _ => ?_
      refine gt_ite (fun _ => bk_37 ib hK hI) fun _ => ?_
      refine gt_ite (fun _ => bk_38 ib hK hI) fun _ => ?_
      refine gt_ite (fun _ => bk_39 ib hK hI) fun _ => ?_
      refine gt_ite (fun _ => bk_40 ib hK hI) fun _ => ?_
      refine gt_ite (fun _ => bk_41 ib hK hI) fun _ => ?_
      refine gt_ite (fun _ => bk_42 ib hK hI) fun _ => ?_
      refine gt_ite (fun _ => bk_43 ib hK hI) fun _ => ?_
      refine gt_ite (fun _ => bk_44 ib hK hI) fun _ => ?_
      refine gt_ite (fun _ => bk_45 ib hK hI) fun _ => ?_
      refine gt_ite (fun _ => bk_46 ib hK hI) fun _ => ?_
      refine gt_ite (fun _ => bk_47 ib hK hI) fun _ => ?_
      refine gt_ite (fun _ => bk_48 ib hK hI) fun _ => ?_
      refine gt_ite (fun _ => bk_49 ib hK hI) fun _ => ?_
      refine gt_ite (fun _ => bk_50 ib hK hI) fun _ => ?_
      exact (hK σ h Λ hI).mo (by omega)
