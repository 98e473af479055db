/-! PURE: a village, more -/
/-- states that are the same but for these things -/
def Fr (S : Nat → Prop) (σ σ' : pn_S) : Prop := ∀ i, ¬ S i → σ' i = σ i
theorem Fr.rf {S : Nat → Prop} {σ : pn_S} : Fr S σ σ := fun _ _ => rfl
theorem Fr.tr {S : Nat → Prop} {a b c : pn_S} (h : Fr S a b) (h2 : Fr S b c) : Fr S a c := fun i hi => (h2 i hi).trans (h i hi)
theorem Fr.mono {S T : Nat → Prop} {a b : pn_S} (h : Fr S a b) (hs : ∀ i, S i → T i) : Fr T a b := fun i hi => h i fun q => hi (hs i q)
theorem Fr.up {S : Nat → Prop} {a b : pn_S} (h : Fr S a b) {i k : Nat} {x : Int32} (hi : S i) : Fr S a (pn_up b i k x) := fun j hj => by
  rw [pn_up_a _ _ _ _ (fun e => hj (by rw [e]; exact hi))]; exact h j hj
theorem Fr.ua {S : Nat → Prop} {a b : pn_S} (h : Fr S a b) {i : Nat} {f : Nat → Int32} (hi : S i) : Fr S a (pn_ua b i f) := fun j hj => by
  rw [pn_ua_a _ _ _ (fun e => hj (by rw [e]; exact hi))]; exact h j hj
theorem cv_fr {σ σ' : pn_S} {v : Nat} {V : pn_V} (h : CV σ v V) (h0 : σ' v = σ v) (h1 : σ' (v + 1) = σ (v + 1)) (h2 : σ' (v + 2) = σ (v + 2)) : CV σ' v V := by
  unfold CV at h ⊢
  rw [h0, h1, h2]
  exact h
theorem cv_V {σ : pn_S} {v : Nat} {V U : pn_V} (h : CV σ v V) (hn : vn V ≤ 8) (hl : vl V ≤ 60) (he : ∀ k, k < 317 → k ≠ 2 → U k = V k) : CV σ v U := by
  obtain ⟨h1, h2, x0, hx0, h3, h4⟩ := h
  have evn : vn U = vn V := by unfold vn; rw [he 0 (by omega) (by omega)]
  have evl : vl U = vl V := by unfold vl; rw [he 11 (by omega) (by omega)]
  refine ⟨?_, fun k hk => ?_, x0, hx0, h3, fun a ha k hk => ?_⟩
  · rw [he 0 (by omega) (by omega), he 1 (by omega) (by omega), he 3 (by omega) (by omega), he 4 (by omega) (by omega), he 5 (by omega) (by omega), he 6 (by omega) (by omega), he 7 (by omega) (by omega), he 8 (by omega) (by omega), he 9 (by omega) (by omega), he 10 (by omega) (by omega), he 11 (by omega) (by omega), he 12 (by omega) (by omega)]
    exact h1
  · rw [evn] at hk
    rw [he _ (by omega) (by omega)]
    exact h2 k hk
  · rw [evl] at ha
    rw [he _ (by omega) (by omega)]
    exact h4 a ha k hk
theorem vw_V {V U : pn_V} (h : VW V) (he : ∀ k, k < 317 → k ≠ 2 → U k = V k) : VW U := by
  have hn := h.n.2
  have evn : vn U = vn V := by unfold vn; rw [he 0 (by omega) (by omega)]
  unfold VW at h ⊢
  rw [evn, he 0 (by omega) (by omega), he 1 (by omega) (by omega), he 3 (by omega) (by omega), he 4 (by omega) (by omega), he 5 (by omega) (by omega), he 6 (by omega) (by omega), he 7 (by omega) (by omega), he 8 (by omega) (by omega), he 9 (by omega) (by omega), he 10 (by omega) (by omega), he 11 (by omega) (by omega)]
  obtain ⟨a1, a2, a3, a4, a5, a6, a7, a8, a9, a10, a11, h12⟩ := h
  refine ⟨a1, a2, a3, a4, a5, a6, a7, a8, a9, a10, a11, fun p hp => ?_⟩
  have e : ∀ k, k < 8 → tr U p k = tr V p k := fun k hk => he _ (by omega) (by omega)
  rw [e 0 (by omega), e 1 (by omega), e 2 (by omega), e 3 (by omega), e 4 (by omega), e 5 (by omega), e 6 (by omega), e 7 (by omega)]
  exact h12 p hp
/-- the village u copied onto v -/
def cpV (σ : pn_S) (v u : Nat) : pn_S := fun i j => if i = v + 1 then va_cpy (σ (u + 1)) (σ (v + 1)) 0 0 64 j else if i = v + 2 then va_cpy (σ (u + 2)) (σ (v + 2)) 0 0 240 j else if i = v then (if 2 ≤ j ∧ j < 15 then σ u j else σ v j) else σ i j
theorem cpV_eq {σ : pn_S} {v u : Nat} (hb : pn_b01 (σ u 7) = true) (hvu : v + 3 ≤ u ∨ u + 3 ≤ v) : fX8_copy v u σ = some (cpV σ v u) := by
  have d0 : ¬ u = v := by omega
  have d1 : ¬ u = v + 1 := by omega
  have d2 : ¬ u = v + 2 := by omega
  have d6 : ¬ u + 2 = v := by omega
  have d7 : ¬ u + 2 = v + 1 := by omega
  have d8 : ¬ u + 2 = v + 2 := by omega
  unfold fX8_copy fX8_copy_44 fX8_copy_76 fX8_copy_108 fX8_copy_140
  rw [if_pos (by simp [pn_up, pn_ua, d0, d1, d2]; exact hb)]
  refine congrArg some ?_
  funext i j
  by_cases e1 : i = v + 1
  · subst e1
    simp [pn_up, pn_ua, cpV]
  · by_cases e2 : i = v + 2
    · subst e2
      simp [pn_up, pn_ua, cpV, d7]
    · by_cases e0 : i = v
      · subst e0
        simp only [pn_up, pn_ua, cpV, if_neg d0, if_neg d1, if_neg d2, if_neg e1, if_neg e2, if_true]
        match j with
        | 0 => rfl
        | 1 => rfl
        | 2 => rfl
        | 3 => rfl
        | 4 => rfl
        | 5 => rfl
        | 6 => rfl
        | 7 => rfl
        | 8 => rfl
        | 9 => rfl
        | 10 => rfl
        | 11 => rfl
        | 12 => rfl
        | 13 => rfl
        | 14 => rfl
        | n + 15 => simp; omega
      · simp [pn_up, pn_ua, cpV, e0, e1, e2]
theorem rg01 {x : Int32} (h : rg x 0 1) : x = 0 ∨ x = 1 := by
  have r1 := h.1; have r2 := h.2
  rcases Int.lt_or_le x.toInt 1 with q | q
  · exact Or.inl (q_eq.mpr (by show _ = (0 : Int); omega))
  · exact Or.inr (q_eq.mpr (by show _ = (1 : Int); omega))
theorem c_copy {σ : pn_S} {v u : Nat} {V : pn_V} (h : CV σ u V) (hw : VW V) (hvu : v + 3 ≤ u ∨ u + 3 ≤ v) : fX8_copy v u σ = some (cpV σ v u) ∧ CV (cpV σ v u) v V ∧ Fr (fun i => i = v ∨ i = v + 1 ∨ i = v + 2) σ (cpV σ v u) := by
  have hn := hw.n.2
  have hl := hw.l.2
  obtain ⟨h1, h2, x0, hx0, h3, h4⟩ := h
  have hb : pn_b01 (σ u 7) = true := by
    rw [h1.2.2.2.2.2.1]
    rcases rg01 hw.2.2.2.1 with e | e <;> rw [e] <;> decide
  refine ⟨cpV_eq hb hvu, ⟨?_, ?_, x0, hx0, ?_, ?_⟩, ?_⟩
  · have hv : ∀ j, 2 ≤ j → j < 15 → cpV σ v u v j = σ u j := fun j h1 h2 => by
      unfold cpV
      rw [if_neg (by omega), if_neg (by omega), if_pos rfl, if_pos ⟨h1, h2⟩]
    rw [hv 2 (by omega) (by omega), hv 3 (by omega) (by omega), hv 4 (by omega) (by omega), hv 5 (by omega) (by omega), hv 6 (by omega) (by omega), hv 7 (by omega) (by omega), hv 8 (by omega) (by omega), hv 9 (by omega) (by omega), hv 10 (by omega) (by omega), hv 11 (by omega) (by omega), hv 12 (by omega) (by omega), hv 13 (by omega) (by omega)]
    exact h1
  · intro k hk
    unfold cpV
    rw [if_pos rfl, pk_cpy_in (by omega) (by omega), Nat.zero_add, Nat.sub_zero]
    exact h2 k hk
  · unfold cpV
    rw [if_neg (by omega), if_neg (by omega), if_pos rfl, if_pos ⟨by omega, by omega⟩]
    exact h3
  · intro a ha k hk
    unfold cpV
    rw [if_neg (by omega), if_pos rfl, pk_cpy_in (by omega) (by omega), Nat.zero_add, Nat.sub_zero]
    exact h4 a ha k hk
  · intro i hi
    have g0 : ¬ i = v := fun e => hi (Or.inl e)
    have g1 : ¬ i = v + 1 := fun e => hi (Or.inr (Or.inl e))
    have g2 : ¬ i = v + 2 := fun e => hi (Or.inr (Or.inr e))
    funext j
    unfold cpV
    rw [if_neg g1, if_neg g2, if_neg g0]
/-- a field of the village alone -/
theorem c_aim {σ : pn_S} {v : Nat} {V : pn_V} (h : CV σ v V) (x : Int32) : fX8_aim v x σ = some (pn_up (pn_up σ v 4 x) v 5 0) ∧ CV (pn_up (pn_up σ v 4 x) v 5 0) v (upd (upd V 5 x) 6 0) := by
  refine ⟨rfl, ?_⟩
  obtain ⟨⟨g2, g3, g4, g5, g6, g7, g8, g9, g10, g11, g12, g13⟩, h2, x0, hx0, h3, h4⟩ := h
  have evn : vn (upd (upd V 5 x) 6 0) = vn V := rfl
  have evl : vl (upd (upd V 5 x) 6 0) = vl V := rfl
  refine ⟨?_, fun k hk => ?_, x0, hx0, ?_, fun a ha k hk => ?_⟩
  · simp [pn_up, upd, g2, g3, g6, g7, g8, g9, g10, g11, g12, g13]
  · rw [evn] at hk
    rw [pn_up_a _ _ _ _ (by omega), pn_up_a _ _ _ _ (by omega), h2 k hk]
    unfold upd
    rw [if_neg (by omega), if_neg (by omega)]
  · simp [pn_up, h3]
  · rw [evl] at ha
    rw [pn_up_a _ _ _ _ (by omega), pn_up_a _ _ _ _ (by omega), h4 a ha k hk]
    unfold upd
    rw [if_neg (by omega), if_neg (by omega)]
/-- the village with one field anew: field f of the object is place i of V -/
theorem cv_fld {σ : pn_S} {v : Nat} {V : pn_V} (h : CV σ v V) (f i : Nat) (x : Int32) (hf : (f = 3 ∧ i = 1) ∨ (f = 4 ∧ i = 5) ∨ (f = 5 ∧ i = 6) ∨ (f = 6 ∧ i = 3) ∨ (f = 7 ∧ i = 4) ∨ (f = 8 ∧ i = 7) ∨ (f = 9 ∧ i = 8) ∨ (f = 10 ∧ i = 9) ∨ (f = 11 ∧ i = 10) ∨ (f = 12 ∧ i = 12)) : CV (pn_up σ v f x) v (upd V i x) := by
  obtain ⟨⟨g2, g3, g4, g5, g6, g7, g8, g9, g10, g11, g12, g13⟩, h2, x0, hx0, h3, h4⟩ := h
  have hi : i ≠ 0 ∧ i ≠ 11 ∧ i < 13 ∧ f ≠ 14 := by omega
  have evn : vn (upd V i x) = vn V := by unfold vn upd; rw [if_neg (fun e => hi.1 e.symm)]
  have evl : vl (upd V i x) = vl V := by unfold vl upd; rw [if_neg (fun e => hi.2.1 e.symm)]
  refine ⟨?_, fun k hk => ?_, x0, hx0, ?_, fun a ha k hk => ?_⟩
  · rcases hf with ⟨rfl, rfl⟩ | ⟨rfl, rfl⟩ | ⟨rfl, rfl⟩ | ⟨rfl, rfl⟩ | ⟨rfl, rfl⟩ | ⟨rfl, rfl⟩ | ⟨rfl, rfl⟩ | ⟨rfl, rfl⟩ | ⟨rfl, rfl⟩ | ⟨rfl, rfl⟩ <;> simp [pn_up, upd, g2, g3, g4, g5, g6, g7, g8, g9, g10, g11, g12, g13]
  · rw [evn] at hk
    rw [pn_up_a _ _ _ _ (by omega), h2 k hk]
    unfold upd
    rw [if_neg (by omega)]
  · rw [pn_up_k _ _ _ _ (fun e => hi.2.2.2 e.symm)]
    exact h3
  · rw [evl] at ha
    rw [pn_up_a _ _ _ _ (by omega), h4 a ha k hk]
    unfold upd
    rw [if_neg (by omega)]
