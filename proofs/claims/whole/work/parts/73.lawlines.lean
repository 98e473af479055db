/-! PURE: the lines of a law -/
section
variable {c w : Nat → Int32} {n : Nat} {T P : Nat → Int32} {m : Nat}
def ADL (σ : pn_S) (l S : Nat) (a1 a2 : Int32) : pn_S := pn_up (pn_up (pn_up (pn_up (pn_up σ 22 l a1) 23 l a2) 24 l (nI S)) 21 6 (nI (l + 1))) 24 (l + 1) (nI S)
theorem c_addl {σ : pn_S} {l S : Nat} (hl : l < 12) (h6 : σ 21 6 = nI l) (h7 : σ 21 7 = nI S) (a1 a2 : Int32) : fX2_addLine 21 a1 a2 σ = some (ADL σ l S a1 a2) := by
  have A1 : ∀ (s : pn_S) (k : Nat) (x : Int32), pn_up s (21 + 1) k x 21 = s 21 := fun _ _ _ => pn_up_a _ _ _ _ (by omega)
  have A2 : ∀ (s : pn_S) (k : Nat) (x : Int32), pn_up s (21 + 2) k x 21 = s 21 := fun _ _ _ => pn_up_a _ _ _ _ (by omega)
  have A3 : ∀ (s : pn_S) (k : Nat) (x : Int32), pn_up s (21 + 3) k x 21 = s 21 := fun _ _ _ => pn_up_a _ _ _ _ (by omega)
  have A4 : ∀ (s : pn_S) (x : Int32), pn_up s 21 6 x 21 7 = s 21 7 := fun _ _ => pn_up_k _ _ _ _ (by omega)
  have i12 : pn_ib (nI l) 12 = true := q_ib (by omega) (by omega)
  have i13 : pn_ib (nI l) 13 = true := q_ib (by omega) (by omega)
  have j13 : pn_ib (nI (l + 1)) 13 = true := q_ib (by omega) (by omega)
  unfold fX2_addLine fX2_addLine_49 ADL
  rw [h6, if_neg (show ¬ nI l < 0 from nI_pos (by omega)), if_neg (show ¬ (12 : Int32) ≤ nI l from nI_ge (b := 12) hl (by omega))]
  simp only [A1, A2, A3, A4, h6, h7, pn_up_s, nI_1, i12, i13, j13, if_true, nI_clamp (show l < 2 ^ 31 by omega), nI_clamp (show l + 1 < 2 ^ 31 by omega)]
theorem ADL_fr {σ : pn_S} {l S : Nat} {a1 a2 : Int32} : (∀ i, i ≠ 21 → i ≠ 22 → i ≠ 23 → i ≠ 24 → ADL σ l S a1 a2 i = σ i) ∧ (ADL σ l S a1 a2 21 6 = nI (l + 1) ∧ ∀ k, k ≠ 6 → ADL σ l S a1 a2 21 k = σ 21 k) ∧ (ADL σ l S a1 a2 22 l = a1 ∧ ∀ j, j ≠ l → ADL σ l S a1 a2 22 j = σ 22 j) ∧ (ADL σ l S a1 a2 23 l = a2 ∧ ∀ j, j ≠ l → ADL σ l S a1 a2 23 j = σ 23 j) ∧ ADL σ l S a1 a2 24 l = nI S ∧ ADL σ l S a1 a2 24 (l + 1) = nI S ∧ ∀ j, j < l → ADL σ l S a1 a2 24 j = σ 24 j := by
  unfold ADL
  refine ⟨fun i q1 q2 q3 q4 => ?_, ⟨?_, fun k hk => ?_⟩, ⟨?_, fun j hj => ?_⟩, ⟨?_, fun j hj => ?_⟩, ?_, pn_up_s _ _ _ _, fun j hj => ?_⟩
  · rw [pn_up_a _ _ _ _ q4, pn_up_a _ _ _ _ q1, pn_up_a _ _ _ _ q4, pn_up_a _ _ _ _ q3, pn_up_a _ _ _ _ q2]
  · rw [pn_up_a _ _ _ _ (by omega), pn_up_s]
  · rw [pn_up_a _ _ _ _ (by omega), pn_up_k _ _ _ _ hk, pn_up_a _ _ _ _ (by omega), pn_up_a _ _ _ _ (by omega), pn_up_a _ _ _ _ (by omega)]
  · rw [pn_up_a _ _ _ _ (by omega), pn_up_a _ _ _ _ (by omega), pn_up_a _ _ _ _ (by omega), pn_up_a _ _ _ _ (by omega), pn_up_s]
  · rw [pn_up_a _ _ _ _ (by omega), pn_up_a _ _ _ _ (by omega), pn_up_a _ _ _ _ (by omega), pn_up_a _ _ _ _ (by omega), pn_up_k _ _ _ _ hj]
  · rw [pn_up_a _ _ _ _ (by omega), pn_up_a _ _ _ _ (by omega), pn_up_a _ _ _ _ (by omega), pn_up_s]
  · rw [pn_up_a _ _ _ _ (by omega), pn_up_a _ _ _ _ (by omega), pn_up_a _ _ _ _ (by omega), pn_up_k _ _ _ _ hj, pn_up_a _ _ _ _ (by omega)]
  · rw [pn_up_k _ _ _ _ (by omega), pn_up_a _ _ _ _ (by omega), pn_up_s]
  · rw [pn_up_k _ _ _ _ (by omega), pn_up_a _ _ _ _ (by omega), pn_up_k _ _ _ _ (by omega), pn_up_a _ _ _ _ (by omega), pn_up_a _ _ _ _ (by omega)]
/-- so many lines are read: l lines, S steps of code; both hold the same -/
def LD (σ τ : pn_S) (l S : Nat) (kd of : Nat → Nat) : Prop := l ≤ 12 ∧ S ≤ 400 ∧ σ 21 6 = nI l ∧ σ 21 7 = nI S ∧ τ 85 16 = nI S ∧ of 0 = 0 ∧ of l = S ∧ (∀ j, j < l → kd j ≤ 2 ∧ σ 22 j = nI (1016 + kd j) ∧ rg (σ 23 j) 0 30 ∧ σ 24 j = nI (of j) ∧ σ 24 (j + 1) = nI (of (j + 1)) ∧ of j ≤ of (j + 1) ∧ of (j + 1) ≤ S ∧ GoodC (sg (σ 25) (of j) (of (j + 1))) ∧ τ 86 (1167 + 4 * j) = nI (kd j) ∧ τ 86 (1168 + 4 * j) = σ 23 j ∧ τ 86 (1169 + 4 * j) = nI (of j) ∧ τ 86 (1170 + 4 * j) = nI (of (j + 1))) ∧ ∀ j, j < S → τ 86 (1215 + 2 * j) = tS (σ 25 j) ∧ (σ 25 j < 1000 → τ 86 (1216 + 2 * j) = σ 25 j)
theorem LD.next {σ τ σ' τ' : pn_S} {l S S' q : Nat} {kd of : Nat → Nat} (h : LD σ τ l S kd of) (hl : l < 12) (h1 : S ≤ S') (h2 : S' ≤ 400) (hq : q ≤ 2)
    (e6 : σ' 21 6 = nI (l + 1)) (e7 : σ' 21 7 = nI S') (e16 : τ' 85 16 = nI S') (e22 : ∀ j, j < l → σ' 22 j = σ 22 j) (e22' : σ' 22 l = nI (1016 + q)) (e23 : ∀ j, j < l → σ' 23 j = σ 23 j) (e23' : rg (σ' 23 l) 0 30) (e24 : ∀ j, j < l → σ' 24 j = σ 24 j) (e24' : σ' 24 l = nI S) (e24'' : σ' 24 (l + 1) = nI S') (e25 : ∀ j, j < S → σ' 25 j = σ 25 j) (hG : GoodC (sg (σ' 25) S S'))
    (r0 : ∀ k, k < 1167 + 4 * l → 1167 ≤ k → τ' 86 k = τ 86 k) (r1 : τ' 86 (1167 + 4 * l) = nI q) (r2 : τ' 86 (1168 + 4 * l) = σ' 23 l) (r3 : τ' 86 (1169 + 4 * l) = nI S) (r4 : τ' 86 (1170 + 4 * l) = nI S') (hc : ∀ j, j < S' → τ' 86 (1215 + 2 * j) = tS (σ' 25 j) ∧ (σ' 25 j < 1000 → τ' 86 (1216 + 2 * j) = σ' 25 j)) : LD σ' τ' (l + 1) S' (fun j => if j = l then q else kd j) (fun j => if j = l + 1 then S' else of j) := by
  obtain ⟨a1, a2, a3, a4, a5, a6, a7, a8, a9⟩ := h
  refine ⟨by omega, h2, e6, e7, e16, ?_, if_pos rfl, fun j hj => ?_, hc⟩
  · show (if 0 = l + 1 then S' else of 0) = 0
    rw [if_neg (by omega)]; exact a6
  · show (if j = l then q else kd j) ≤ 2 ∧ σ' 22 j = nI (1016 + (if j = l then q else kd j)) ∧ rg (σ' 23 j) 0 30 ∧ σ' 24 j = nI (if j = l + 1 then S' else of j) ∧ σ' 24 (j + 1) = nI (if j + 1 = l + 1 then S' else of (j + 1)) ∧ (if j = l + 1 then S' else of j) ≤ (if j + 1 = l + 1 then S' else of (j + 1)) ∧ (if j + 1 = l + 1 then S' else of (j + 1)) ≤ S' ∧ GoodC (sg (σ' 25) (if j = l + 1 then S' else of j) (if j + 1 = l + 1 then S' else of (j + 1))) ∧ τ' 86 (1167 + 4 * j) = nI (if j = l then q else kd j) ∧ τ' 86 (1168 + 4 * j) = σ' 23 j ∧ τ' 86 (1169 + 4 * j) = nI (if j = l + 1 then S' else of j) ∧ τ' 86 (1170 + 4 * j) = nI (if j + 1 = l + 1 then S' else of (j + 1))
    rw [if_neg (show ¬ j = l + 1 by omega)]
    by_cases z : j = l
    · subst z
      rw [if_pos rfl, if_pos rfl, a7]
      exact ⟨hq, e22', e23', e24', e24'', h1, Nat.le_refl _, hG, r1, r2, r3, r4⟩
    · rw [if_neg z, if_neg (show ¬ j + 1 = l + 1 by omega)]
      obtain ⟨b1, b2, b3, b4, b5, b6, b7, b8, b9, b10, b11, b12⟩ := a8 j (by omega)
      have x24 : σ' 24 (j + 1) = nI (of (j + 1)) := by
        by_cases y : j + 1 = l
        · rw [y, e24', ← a7]
        · rw [e24 _ (by omega)]; exact b5
      refine ⟨b1, (e22 j (by omega)).trans b2, by rw [e23 j (by omega)]; exact b3, (e24 j (by omega)).trans b4, x24, b6, by omega, ?_, (r0 _ (by omega) (by omega)).trans b9, ?_, (r0 _ (by omega) (by omega)).trans b11, (r0 _ (by omega) (by omega)).trans b12⟩
      · rw [sg_c (cd' := σ 25) fun i q1 q2 => e25 i (by omega)]; exact b8
      · rw [e23 j (by omega), r0 _ (by omega) (by omega)]; exact b10
def WkL (σ σ' : pn_S) : Prop := (∀ i, i ≠ 1 → i ≠ 21 → i ≠ 22 → i ≠ 23 → i ≠ 24 → i ≠ 25 → σ' i = σ i) ∧ ∀ k, k ≠ 6 → k ≠ 7 → σ' 1 k = σ 1 k
theorem WkL.rf {σ : pn_S} : WkL σ σ := ⟨fun _ _ _ _ _ _ _ => rfl, fun _ _ _ => rfl⟩
theorem WkL.tr {a b d : pn_S} (h : WkL a b) (h2 : WkL b d) : WkL a d := ⟨fun i q1 q2 q3 q4 q5 q6 => (h2.1 i q1 q2 q3 q4 q5 q6).trans (h.1 i q1 q2 q3 q4 q5 q6), fun k q1 q2 => (h2.2 k q1 q2).trans (h.2 k q1 q2)⟩
theorem WkK.l {a b : pn_S} (h : WkK a b) : WkL a b := ⟨fun i q1 q2 _ _ q5 q6 => h.1 i q1 q2 q5 q6, h.2⟩
theorem Fr1.l {a b : pn_S} (h : Fr1 a b) : WkL a b := ⟨fun i q1 _ _ _ _ _ => h.1 i q1, h.2⟩
theorem ADL_l {σ : pn_S} {l S : Nat} {a1 a2 : Int32} : WkL σ (ADL σ l S a1 a2) := ⟨fun i _ q2 q3 q4 q5 _ => ADL_fr.1 i q2 q3 q4 q5, fun k _ _ => by rw [ADL_fr.1 1 (by omega) (by omega) (by omega) (by omega)]⟩
theorem WkR_86 {τ : pn_S} {k : Nat} {x : Int32} (h : 1166 ≤ k) : WkR τ (pn_up τ 86 k x) := ⟨fun i _ q => pn_up_a _ _ _ _ q, fun j _ _ _ _ => by rw [pn_up_a _ _ _ _ (by omega)], fun j hj => pn_up_k _ _ _ _ (by omega)⟩
theorem FrP.wk {a b : pn_S} (h : FrP a b) : WkR a b := (StR_P (S := 0) h).1
/-- a line of a law, read by both -/
def JLL (c w : Nat → Int32) (n : Nat) (T P : Nat → Int32) (m : Nat) (σ τ : pn_S) (l : Nat) (oc or : Option (Int32 × pn_S)) : Prop :=
  (∃ σ' τ' k' i' S' kd' of', oc = some (1, σ') ∧ or = some (1, τ') ∧ JS c w n T P m σ' τ' k' i' ∧ LD σ' τ' (l + 1) S' kd' of' ∧ S' ≤ i' ∧ WkL σ σ' ∧ WkR τ τ') ∨
  (∃ σ' τ' p, oc = some (0, σ') ∧ or = some (0, τ') ∧ p ≤ n ∧ σ' 1 7 = nI p ∧ τ' 85 12 = nI p ∧ WkL σ σ' ∧ WkR τ τ')
theorem j_lin2 (hb : HB c w n) {σ τ : pn_S} {k s l S q : Nat} {kd of : Nat → Nat} (h : LSt c w n T P m σ τ k s) (hD : LD σ τ l S kd of) (hl : l < 12) (hs : S ≤ s) (hq : q ≤ 2) (hc : cod c n s = nI (1016 + q)) : JLL c w n T P m σ τ l (fX3_readLine_37 (nI (1016 + q)) σ) (fX11_readLawLine_53 (nI (1167 + 4 * l)) (nI (1167 + 4 * l)) (nI q) τ) := by
  have hn := hb.1
  have I10 : ¬ (1 : Int32) = 0 := by decide
  obtain ⟨g0, hsn⟩ := h.go hb (q := 16 + q) (by omega) (by rw [hc, show 1016 + q = 1000 + (16 + q) by omega])
  have gt := en_gt c (n := n) (s := s)
  have ib0 : pn_ib (nI (1167 + 4 * l)) 2015 = true := q_ib (by omega) (by omega)
  have ib1 : pn_ib (nI (1167 + 4 * l + 1)) 2015 = true := q_ib (by omega) (by omega)
  have ib2 : pn_ib (nI (1167 + 4 * l + 2)) 2015 = true := q_ib (by omega) (by omega)
  have ib3 : pn_ib (nI (1167 + 4 * l + 3)) 2015 = true := q_ib (by omega) (by omega)
  have p2 : nI (1167 + 4 * l) + 2 = nI (1167 + 4 * l + 2) := nI_add _ 2
  have p3 : nI (1167 + 4 * l) + 3 = nI (1167 + 4 * l + 3) := nI_add _ 3
  unfold fX3_readLine_37 fX11_readLawLine_53
  rw [c_ta h.2.2.2.1 h.1 h.2.2.1 (x := nI (1016 + q)) (by rw [h.2.2.2.2]; exact hc) 30, ib0, if_pos rfl, if_pos rfl, nI_clamp (by omega), pn_up_s, if_pos (show (0 : Int32) ≤ nI q by rw [q_le, nI_toInt (by omega)]; show (0 : Int) ≤ _; omega)]
  rcases j_num hb (js_86 (j := 1167 + 4 * l) (x := nI q) g0) 30 with ⟨x, i1, τ1, a1, a2, a3, a4, a5, a6, a7, a8, a9, _⟩ | ⟨p, τ1, b0, b1, b2, b3, b4⟩
  · have e1 : Fr1 σ (pn_up (pn_up σ 1 6 (nI (k + 1))) 1 6 (nI (k + 1 + 1))) := (Fr1_up (by omega)).tr (Fr1_up (by omega))
    have x0 : (0 : Int32) ≤ x := by rw [q_le]; exact a4
    have hx1 : ¬ x = -1 := fun u => by rw [u] at a4; exact absurd a4 (by decide)
    rw [a1, bi_some, if_neg hx1, a2, bi_some]
    generalize pn_up (pn_up σ 1 6 (nI (k + 1))) 1 6 (nI (k + 1 + 1)) = σ3 at a7 e1
    have e21 : σ3 21 = σ 21 := e1.1 21 (by omega)
    have t16 : τ1 85 16 = nI S := by rw [a8.2 16 (by omega) (by omega), pn_up_a _ _ _ _ (by omega)]; exact hD.2.2.2.2.1
    have t86 : τ1 86 = upd (τ 86) (1167 + 4 * l) (nI q) := by rw [a8.1 86 (by omega), pn_up_row]
    rw [c_addl hl (by rw [e21]; exact hD.2.2.1) (by rw [e21]; exact hD.2.2.2.1), Option.bind_some, nI_1, ib1, if_pos rfl, if_pos rfl, nI_clamp (show 1167 + 4 * l + 1 < _ by omega), pn_up_s, if_pos x0, p2, ib2, if_pos rfl, nI_clamp (show 1167 + 4 * l + 2 < _ by omega), pn_up_a _ _ _ _ (show (85 : Nat) ≠ 86 by omega), t16]
    obtain ⟨d0, ⟨d1, d2⟩, ⟨d3, d4⟩, ⟨d5, d6⟩, d7, d8, d9⟩ := ADL_fr (σ := σ3) (l := l) (S := S) (a1 := nI (1016 + q)) (a2 := x)
    have wl5 : WkL σ (ADL σ3 l S (nI (1016 + q)) x) := (e1.l).tr ADL_l
    generalize ADL σ3 l S (nI (1016 + q)) x = σ5 at d0 d1 d2 d3 d4 d5 d6 d7 d8 d9 wl5
    have jsb : JS c w n T P m σ5 (pn_up (pn_up (pn_up τ1 86 (1167 + 4 * l + 1) x) 86 (1167 + 4 * l + 2) (nI S)) 85 13 0) (k + 1 + 1) i1 := JS_13 (js_86 (js_86 (a7.v (d0 1 (by omega) (by omega) (by omega) (by omega)) (d0 3 (by omega) (by omega) (by omega) (by omega)) (d0 4 (by omega) (by omega) (by omega) (by omega)) rfl rfl rfl)))
    have b16 : pn_up (pn_up (pn_up τ1 86 (1167 + 4 * l + 1) x) 86 (1167 + 4 * l + 2) (nI S)) 85 13 0 85 16 = nI S := by rw [pn_up_k _ _ _ _ (show (16 : Nat) ≠ 13 by omega), pn_up_a _ _ _ _ (by omega), pn_up_a _ _ _ _ (by omega)]; exact t16
    have b13 : pn_up (pn_up (pn_up τ1 86 (1167 + 4 * l + 1) x) 86 (1167 + 4 * l + 2) (nI S)) 85 13 0 85 13 = 0 := pn_up_s _ _ _ _
    have b86 : pn_up (pn_up (pn_up τ1 86 (1167 + 4 * l + 1) x) 86 (1167 + 4 * l + 2) (nI S)) 85 13 0 86 = upd (upd (upd (τ 86) (1167 + 4 * l) (nI q)) (1167 + 4 * l + 1) x) (1167 + 4 * l + 2) (nI S) := by rw [pn_up_a _ _ _ _ (by omega), pn_up_row, pn_up_row, t86]
    have wrb : WkR τ (pn_up (pn_up (pn_up τ1 86 (1167 + 4 * l + 1) x) 86 (1167 + 4 * l + 2) (nI S)) 85 13 0) := (((WkR_86 (by omega)).tr a8.wk).tr ((WkR_86 (by omega)).tr (WkR_86 (by omega)))).tr WkR_13
    generalize pn_up (pn_up (pn_up τ1 86 (1167 + 4 * l + 1) x) 86 (1167 + 4 * l + 2) (nI S)) 85 13 0 = τb at jsb b16 b13 b86 wrb
    have mdb : MD σ5 τb (l + 1) S := by
      refine ⟨by omega, by omega, hD.2.1, d1, ?_, d8, b16, fun j hj => ?_⟩
      · rw [d2 7 (by omega), e21]; exact hD.2.2.2.1
      · rw [b86, pk_un (by omega), pk_un (by omega), pk_un (by omega), pk_un (by omega), pk_un (by omega), pk_un (by omega), d0 25 (by omega) (by omega) (by omega) (by omega), e1.1 25 (by omega)]
        exact hD.2.2.2.2.2.2.2.2 j hj
    have fin : ∀ (σ' τ' : pn_S) (S' : Nat), S ≤ S' → MD σ' τ' (l + 1) S' → StK (l + 1) S σ5 σ' → StR S τb τ' → GoodC (sg (σ' 25) S S') → LD σ' (pn_up τ' 86 (1167 + 4 * l + 3) (nI S')) (l + 1) S' (fun j => if j = l then q else kd j) (fun j => if j = l + 1 then S' else of j) := fun σ' τ' S' z1 z2 z3 z4 z5 => by
      have r : ∀ k, k < 1215 → k ≠ 1167 + 4 * l + 3 → pn_up τ' 86 (1167 + 4 * l + 3) (nI S') 86 k = upd (upd (upd (τ 86) (1167 + 4 * l) (nI q)) (1167 + 4 * l + 1) x) (1167 + 4 * l + 2) (nI S) k := fun k q1 q2 => by rw [pn_up_k _ _ _ _ q2, z4.2.1 k (by omega), b86]
      have e22 : σ' 22 = σ5 22 := z3.1.1 22 (by omega) (by omega) (by omega) (by omega)
      have e23 : σ' 23 = σ5 23 := z3.1.1 23 (by omega) (by omega) (by omega) (by omega)
      refine hD.next hl z1 z2.2.2.1 hq (z2.2.2.2.1) z2.2.2.2.2.1 (by rw [pn_up_a _ _ _ _ (by omega)]; exact z2.2.2.2.2.2.2.1) (fun j hj => ?_) ?_ (fun j hj => ?_) ?_ (fun j hj => ?_) ?_ z2.2.2.2.2.2.1 (fun j hj => ?_) z5 (fun k q1 q2 => ?_) ?_ ?_ ?_ ?_ (fun j hj => ?_)
      · rw [e22, d4 j (by omega), e1.1 22 (by omega)]
      · rw [e22, d3]
      · rw [e23, d6 j (by omega), e1.1 23 (by omega)]
      · rw [e23, d5]; exact ⟨a4, a5⟩
      · rw [z3.2.1 j (by omega), d9 j hj, e1.1 24 (by omega)]
      · rw [z3.2.1 l (by omega), d7]
      · rw [z3.2.2.1 j hj, d0 25 (by omega) (by omega) (by omega) (by omega), e1.1 25 (by omega)]
      · rw [r k (by omega) (by omega), pk_un (by omega), pk_un (by omega), pk_un (by omega)]
      · rw [r _ (by omega) (by omega), pk_un (by omega), pk_un (by omega), pk_us]
      · rw [r _ (by omega) (by omega), pk_un (by omega), show 1168 + 4 * l = 1167 + 4 * l + 1 by omega, pk_us, e23, d5]
      · rw [r _ (by omega) (by omega), show 1169 + 4 * l = 1167 + 4 * l + 2 by omega, pk_us]
      · rw [show 1170 + 4 * l = 1167 + 4 * l + 3 by omega, pn_up_s]
      · rw [pn_up_k _ _ _ _ (show 1215 + 2 * j ≠ 1167 + 4 * l + 3 by omega), pn_up_k _ _ _ _ (show 1216 + 2 * j ≠ 1167 + 4 * l + 3 by omega)]
        exact z2.2.2.2.2.2.2.2 j hj
    have w128 : ∀ (τ' : pn_S) (S' : Nat), τ' 85 16 = nI S' → fX11_readLawLine_128 (nI (1167 + 4 * l)) τ' = some (1, pn_up τ' 86 (1167 + 4 * l + 3) (nI S')) := fun τ' S' z => by
      unfold fX11_readLawLine_128
      rw [p3, ib3, if_pos rfl, nI_clamp (by omega), z]
    rcases j_pass hb jsb (q := 19) (by omega) with ⟨i2, τ2, z, c1, c2, c3, c4, c5, _⟩ | ⟨τ2, z, c1, c2, c3, c4, _⟩
    · have c1 : fX7_take 1019 σ5 = some (1, pn_up σ5 1 6 (nI (k + 1 + 1 + 1))) := c1
      have c2 : fX11_passes 20 τb = some (1, τ2) := c2
      have f1 : Fr1 σ5 (pn_up σ5 1 6 (nI (k + 1 + 1 + 1))) := Fr1_up (by omega)
      rw [c1, bi_some, if_neg I10, c2, bi_some, if_neg I10]
      rcases j_cond hb c3 (mdb.fr f1 c4) (by omega) ((c4.2 13 (by omega) (by omega)).trans b13) with ⟨σ8, τ8, k8, i8, S8, v1, v2, v3, v4, v5, v6, v7, v8, v9⟩ | ⟨σ8, τ8, p, v1, v2, v3, v4, v5, v6, v7, v8⟩
      · rw [v1, bi_some, if_neg I10, v2, bi_some, if_neg I10, w128 τ8 S8 v4.2.2.2.2.2.2.1]
        refine Or.inl ⟨σ8, _, k8, i8, S8, _, _, rfl, rfl, js_86 v3, fin σ8 τ8 S8 v5 v4 ((StK_1 f1).tr v8 (Nat.le_refl _)) ((StR_P c4).tr v9 (Nat.le_refl _)) (Or.inr fun F hF => ?_), by omega, wl5.tr (f1.l.tr v8.1.l), (wrb.tr (c4.wk.tr v9.1)).tr (WkR_86 (by omega))⟩
        exact v7 F hF [] (by decide)
      · rw [v1, bi_some, if_pos rfl, v2, bi_some, if_pos rfl]
        exact Or.inr ⟨σ8, τ8, p, rfl, rfl, v3, v4, v5, wl5.tr (f1.l.tr v7.l), wrb.tr (c4.wk.tr v8)⟩
    · have c1 : fX7_take 1019 σ5 = some (0, σ5) := c1
      have c2 : fX11_passes 20 τb = some (0, τ2) := c2
      have le := (sk_le (c := c) jsb.2.1.2.2.2).1
      have md2 : MD σ5 τ2 (l + 1) S := mdb.fr Fr1.rf c4
      rw [c1, bi_some, if_pos rfl, c2, bi_some, if_pos rfl, w128 τ2 S md2.2.2.2.2.2.2.1]
      exact Or.inl ⟨σ5, _, _, _, S, _, _, rfl, rfl, js_86 c3, fin σ5 τ2 S (Nat.le_refl _) md2 StK.rf (StR_P c4) (Or.inl (sg_self _ _)), by omega, wl5, (wrb.tr c4.wk).tr (WkR_86 (by omega))⟩
  · have e1 : Fr1 σ (pn_up (pn_up σ 1 6 (nI (k + 1))) 1 7 (nI p)) := (Fr1_up (by omega)).tr (Fr1_up (by omega))
    rw [b1, bi_some, if_pos rfl, b2, bi_some, nI_1, ib1, if_pos rfl, if_pos rfl, nI_clamp (show 1167 + 4 * l + 1 < _ by omega), pn_up_s, if_neg (by decide)]
    exact Or.inr ⟨_, _, p, rfl, rfl, b0, pn_up_s _ _ _ _, by rw [pn_up_a _ _ _ _ (by omega)]; exact b3, e1.l, ((WkR_86 (by omega)).tr b4.wk).tr (WkR_86 (by omega))⟩
theorem j_lline (hb : HB c w n) {σ τ : pn_S} {k s l S : Nat} {kd of : Nat → Nat} (h : LSt c w n T P m σ τ k s) (hD : LD σ τ l S kd of) (hl : l < 12) (hs : S ≤ s) : JLL c w n T P m σ τ l (fX3_readLine σ) (fX11_readLawLine (nI l) τ) := by
  have w16 : fX11_isWord 17 τ = some (b01 (decide (cod c n s = 1016))) := r_wd hb h.2.1 (k := 16) (by omega)
  have w17 : fX11_isWord 18 τ = some (b01 (decide (cod c n s = 1017))) := r_wd hb h.2.1 (k := 17) (by omega)
  have w18 : fX11_isWord 19 τ = some (b01 (decide (cod c n s = 1018))) := r_wd hb h.2.1 (k := 18) (by omega)
  have T1 : ¬ b01 true = 0 := by decide
  have F1 : b01 false = 0 := rfl
  have e0 : (1167 : Int32) + 4 * nI l = nI (1167 + 4 * l) := by rw [q_lit 1167, q_lit 4, pk_mul, nI_add]
  unfold fX3_readLine fX11_readLawLine
  rw [h.js.1, Option.bind_some, w16, Option.bind_some, e0]
  by_cases h16 : cod c n s = 1016
  · rw [if_pos h16, decide_eq_true h16, if_neg T1, h16]
    exact j_lin2 hb h hD hl hs (q := 0) (by omega) h16
  · rw [if_neg h16, decide_eq_false h16, if_pos F1, w17, Option.bind_some]
    by_cases h17 : cod c n s = 1017
    · rw [if_pos h17, decide_eq_true h17, if_neg T1, h17]
      exact j_lin2 hb h hD hl hs (q := 1) (by omega) h17
    · rw [if_neg h17, decide_eq_false h17, if_pos F1, w18, Option.bind_some]
      by_cases h18 : cod c n s = 1018
      · rw [if_pos h18, decide_eq_true h18, if_neg T1, h18]
        exact j_lin2 hb h hD hl hs (q := 2) (by omega) h18
      · rw [if_neg h18, decide_eq_false h18, if_pos F1, h.js.2, bi_some, if_pos (by decide)]
        have ib0 : pn_ib (nI (1167 + 4 * l)) 2015 = true := q_ib (by omega) (by omega)
        unfold fX11_readLawLine_53
        rw [ib0, if_pos rfl, if_pos rfl, nI_clamp (by omega), pn_up_s, if_neg (by decide)]
        exact Or.inr ⟨_, _, s, rfl, rfl, h.2.1.2.2, pn_up_s _ _ _ _, by rw [pn_up_a _ _ _ _ (by omega)]; exact h.2.1.2.1, (Fr1_up (by omega)).l, WkR_86 (by omega)⟩
/-- all lines -/
def JB (n : Nat) (σ τ : pn_S) (oc or : Option (Int32 × pn_S)) : Prop :=
  (∃ σ' τ' l S kd of, oc = some (1, σ') ∧ or = some (nI l, τ') ∧ σ' 1 7 = -1 ∧ LD σ' τ' l S kd of ∧ WkL σ σ' ∧ WkR τ τ') ∨
  (∃ σ' τ' p, oc = some (0, σ') ∧ or = some (-1, τ') ∧ p ≤ n ∧ σ' 1 7 = nI p ∧ τ' 85 12 = nI p ∧ WkL σ σ' ∧ WkR τ τ')
theorem LD.fr {σ σ' τ τ' : pn_S} {l S : Nat} {kd of : Nat → Nat} (h : LD σ τ l S kd of) (f : Fr1 σ σ') (g : FrP τ τ') : LD σ' τ' l S kd of := by
  unfold LD
  rw [f.1 21 (by omega), f.1 22 (by omega), f.1 23 (by omega), f.1 24 (by omega), f.1 25 (by omega), g.2 16 (by omega) (by omega), g.1 86 (by omega)]
  exact h
theorem j_llines (hb : HB c w n) : ∀ (r l f f' : Nat) (σ τ : pn_S) (k i S : Nat) (kd of : Nat → Nat), l + r = 12 → r < f → r < f' → JS c w n T P m σ τ k i → LD σ τ l S kd of → S ≤ i → JB n σ τ (fX4_readLines_36_17 f 12 (nI l) σ) (fX11_readAll_28 f' 0 (nI l) τ) := by
  have h400 := hb.1
  have I10 : ¬ (1 : Int32) = 0 := by decide
  intro r
  induction r with
  | zero =>
    intro l f f' σ τ k i S kd of hl hf hf' h hD hi
    match f, f', hf, hf' with
    | f + 1, f' + 1, _, _ =>
      have e : l = 12 := by omega
      subst e
      obtain ⟨τ1, g1, g2, g3⟩ := js_let hb h
      rw [fX4_readLines_36_17, if_pos (show (12 : Int32) ≤ nI 12 by decide), g2.js.2, bi_some, if_pos (by decide), fX11_readAll_28]
      unfold fX11_readLine fX11_readLine_16
      rw [g1, Option.bind_some, if_pos rfl, if_pos (show (12 : Int32) ≤ nI 12 by decide), bi_some, if_pos rfl]
      exact Or.inr ⟨_, τ1, sk c n i, rfl, rfl, g2.2.1.2.2, pn_up_s _ _ _ _, g2.2.1.2.1, (Fr1_up (by omega)).l, g3.wk⟩
  | succ r ih =>
    intro l f f' σ τ k i S kd of hl hf hf' h hD hi
    match f, f', hf, hf' with
    | f + 1, f' + 1, hf, hf' =>
      obtain ⟨τ1, g1, g2, g3⟩ := js_let hb h
      obtain ⟨u1, u2⟩ := sk_le (c := c) h.2.1.2.2.2
      have jl := j_lline hb g2 (hD.fr Fr1.rf g3) (by omega) (by omega)
      rw [fX4_readLines_36_17, if_neg (show ¬ (12 : Int32) ≤ nI l from nI_ge (b := 12) (by omega) (by omega)), fX11_readAll_28]
      unfold fX11_readLine fX11_readLine_16
      rw [g1, Option.bind_some, if_pos (show (0 : Int32) = 0 from rfl), if_neg (show ¬ (12 : Int32) ≤ nI l from nI_ge (b := 12) (by omega) (by omega)), if_pos (show (0 : Int32) = 0 from rfl)]
      rcases jl with ⟨σ2, τ2, k2, i2, S2, kd2, of2, a1, a2, a3, a4, a5, a6, a7⟩ | ⟨σ2, τ2, p, a1, a2, a3, a4, a5, a6, a7⟩
      · rw [a1, bi_some, a2, bi_some, if_neg I10, if_neg I10, bi_some, if_neg I10]
        obtain ⟨τ3, b1, b2, b3, b4⟩ := r_blk hb a3.2.1
        have fv3 : WkR τ τ3 := (g3.wk.tr a7).tr b4.wk
        rw [c_nx a3.2.2.2 a3.1 a3.2.2.1, Option.bind_some, b1, Option.bind_some, b3.1, b3.2.1]
        obtain ⟨s1, s2⟩ := sk_le (c := c) a3.2.1.2.2.2
        have ce := cod_end hb s2
        by_cases z : sk c n i2 = n
        · rw [if_pos (ce.mpr z), if_pos (by rw [z]), nI_1]
          exact Or.inl ⟨σ2, τ3, l + 1, S2, kd2, of2, rfl, rfl, a3.1.2.2.2.1, a4.fr Fr1.rf b4, a6, fv3⟩
        · rw [if_neg (fun u => z (ce.mp u)), if_neg (fun u => z ((nI_eq (by omega) (by omega)).mp u))]
          have ra : fX11_isAt 59 59 τ3 = some (b01 (decide (cod c n (sk c n i2) = nI (2000 + 59)))) := r_at1 hb b3 (a := 59) (by omega) (by omega) (by omega)
          rw [ra, Option.bind_some]
          by_cases y : cod c n (sk c n i2) = nI (2000 + 59)
          · obtain ⟨e1, e2⟩ := sg_en hb s2 (a := 59) (by omega) (by omega) (by omega) y
            have tk : fX7_take 2059 σ2 = some (1, pn_up σ2 1 6 (nI (k2 + 1))) := (c_tk a3.2.2.2 a3.1 a3.2.2.1 _).1 y
            rw [tk, bi_some, if_neg I10, decide_eq_true y, if_neg (show ¬ b01 true = 0 by decide), nI_1, nI_1]
            have f10 : FrP τ3 (pn_up τ3 85 10 (nI (sk c n i2 + 1))) := FrP_up (Or.inl rfl)
            have f6 : Fr1 σ2 (pn_up σ2 1 6 (nI (k2 + 1))) := Fr1_up (by omega)
            have js : JS c w n T P m (pn_up σ2 1 6 (nI (k2 + 1))) (pn_up τ3 85 10 (nI (sk c n i2 + 1))) (k2 + 1) (en c n (sk c n i2)) := ⟨a3.1.nx, by rw [e1]; exact b3.up f10 (pn_up_s _ _ _ _) (by omega), a3.2.2.1.to.2.2.2 e2, a3.2.2.2⟩
            rcases ih (l + 1) f f' _ _ (k2 + 1) (en c n (sk c n i2)) S2 kd2 of2 (by omega) (by omega) (by omega) js (a4.fr f6 (b4.tr f10)) (by omega) with ⟨σ', τ', l', S', kd', of', c1, c2, c3, c4, c5, c6⟩ | ⟨σ', τ', p, c1, c2, c3, c4, c5, c6, c7⟩
            · exact Or.inl ⟨σ', τ', l', S', kd', of', c1, c2, c3, c4, (a6.tr f6.l).tr c5, (fv3.tr f10.wk).tr c6⟩
            · exact Or.inr ⟨σ', τ', p, c1, c2, c3, c4, c5, (a6.tr f6.l).tr c6, (fv3.tr f10.wk).tr c7⟩
          · have tk : fX7_take 2059 σ2 = some (0, σ2) := (c_tk a3.2.2.2 a3.1 a3.2.2.1 _).2 y
            rw [tk, bi_some, if_pos rfl, c_fl a3.2.2.2 a3.1 a3.2.2.1, bi_some, if_pos (by decide), decide_eq_false y, if_pos (show b01 false = 0 from rfl)]
            exact Or.inr ⟨_, τ3, sk c n i2, rfl, rfl, s2, pn_up_s _ _ _ _, b2, a6.tr (Fr1_up (by omega)).l, fv3⟩
      · rw [a1, bi_some, a2, bi_some, if_pos rfl, if_pos rfl, bi_some, if_pos rfl]
        exact Or.inr ⟨σ2, τ2, p, rfl, rfl, a3, a4, a5, a6, g3.wk.tr a7⟩
theorem j_lall (hb : HB c w n) {σ τ : pn_S} (h : JS c w n T P m σ τ 0 0) (h6 : σ 21 6 = 0) (h7 : σ 21 7 = 0) (h16 : τ 85 16 = 0) : JB n σ τ (fX4_readLines_36 12 σ) ((fX11_blanks τ).bind fun σ2 => if (σ2 85 10) = (σ2 85 11) then some ((0 : Int32), σ2) else fX11_readAll_28 5000 0 (0 : Int32) σ2) := by
  have h400 := hb.1
  obtain ⟨τ3, b1, b2, b3, b4⟩ := r_blk hb h.2.1
  obtain ⟨s1, s2⟩ := sk_le (c := c) h.2.1.2.2.2
  have ce := cod_end hb s2
  have hD : LD σ τ3 0 0 (fun _ => 0) (fun _ => 0) := ⟨by omega, by omega, h6, h7, (b4.2 16 (by omega) (by omega)).trans h16, rfl, rfl, fun j hj => by omega, fun j hj => by omega⟩
  unfold fX4_readLines_36
  rw [c_nx h.2.2.2 h.1 h.2.2.1, Option.bind_some, b1, Option.bind_some, b3.1, b3.2.1]
  by_cases z : sk c n 0 = n
  · rw [if_pos (ce.mpr z), if_pos (by rw [z])]
    exact Or.inl ⟨σ, τ3, 0, 0, _, _, rfl, rfl, h.1.2.2.2.1, hD, WkL.rf, b4.wk⟩
  · rw [if_neg (fun u => z (ce.mp u)), if_neg (fun u => z ((nI_eq (by omega) (by omega)).mp u))]
    have js : JS c w n T P m σ τ3 0 (sk c n 0) := ⟨h.1, b3, h.2.2.1.sk (sk_sk 0), h.2.2.2⟩
    rcases j_llines hb 12 0 5000 5000 σ τ3 0 (sk c n 0) 0 _ _ (by omega) (by omega) (by omega) js hD (by omega) with ⟨σ', τ', l', S', kd', of', c1, c2, c3, c4, c5, c6⟩ | ⟨σ', τ', p, c1, c2, c3, c4, c5, c6, c7⟩
    · exact Or.inl ⟨σ', τ', l', S', kd', of', c1, c2, c3, c4, c5, b4.wk.tr c6⟩
    · exact Or.inr ⟨σ', τ', p, c1, c2, c3, c4, c5, c6, b4.wk.tr c7⟩
end
