/-! PURE: conditions become code: emitting, sums -/
section
variable {c w : Nat → Int32} {n : Nat} {T P : Nat → Int32} {m : Nat}
def MD (σ τ : pn_S) (L S : Nat) : Prop := 1 ≤ L ∧ L ≤ 12 ∧ S ≤ 400 ∧ σ 21 6 = nI L ∧ σ 21 7 = nI S ∧ σ 24 L = nI S ∧ τ 85 16 = nI S ∧ ∀ j, j < S → τ 86 (1215 + 2 * j) = tS (σ 25 j) ∧ (σ 25 j < 1000 → τ 86 (1216 + 2 * j) = σ 25 j)
def WkK (σ σ' : pn_S) : Prop := (∀ i, i ≠ 1 → i ≠ 21 → i ≠ 24 → i ≠ 25 → σ' i = σ i) ∧ ∀ k, k ≠ 6 → k ≠ 7 → σ' 1 k = σ 1 k
def WkR (τ τ' : pn_S) : Prop := (∀ i, i ≠ 85 → i ≠ 86 → τ' i = τ i) ∧ (∀ k, k ≠ 10 → k ≠ 12 → k ≠ 13 → k ≠ 16 → τ' 85 k = τ 85 k) ∧ ∀ k, k < 1166 → τ' 86 k = τ 86 k
def StK (L S : Nat) (σ σ' : pn_S) : Prop := WkK σ σ' ∧ (∀ l, l ≠ L → σ' 24 l = σ 24 l) ∧ (∀ j, j < S → σ' 25 j = σ 25 j) ∧ ∀ k, k ≠ 7 → σ' 21 k = σ 21 k
def StR (S : Nat) (τ τ' : pn_S) : Prop := WkR τ τ' ∧ (∀ k, k < 1215 + 2 * S → τ' 86 k = τ 86 k) ∧ τ' 85 13 = τ 85 13
theorem WkK.rf {σ : pn_S} : WkK σ σ := ⟨fun _ _ _ _ _ => rfl, fun _ _ _ => rfl⟩
theorem WkR.rf {σ : pn_S} : WkR σ σ := ⟨fun _ _ _ => rfl, fun _ _ _ _ _ => rfl, fun _ _ => rfl⟩
theorem WkK.tr {a b d : pn_S} (h : WkK a b) (h2 : WkK b d) : WkK a d := ⟨fun i q1 q2 q3 q4 => (h2.1 i q1 q2 q3 q4).trans (h.1 i q1 q2 q3 q4), fun k q1 q2 => (h2.2 k q1 q2).trans (h.2 k q1 q2)⟩
theorem WkR.tr {a b d : pn_S} (h : WkR a b) (h2 : WkR b d) : WkR a d := ⟨fun i q1 q2 => (h2.1 i q1 q2).trans (h.1 i q1 q2), fun k q1 q2 q3 q4 => (h2.2.1 k q1 q2 q3 q4).trans (h.2.1 k q1 q2 q3 q4), fun k q => (h2.2.2 k q).trans (h.2.2 k q)⟩
theorem StK.rf {L S : Nat} {σ : pn_S} : StK L S σ σ := ⟨WkK.rf, fun _ _ => rfl, fun _ _ => rfl, fun _ _ => rfl⟩
theorem StR.rf {S : Nat} {σ : pn_S} : StR S σ σ := ⟨WkR.rf, fun _ _ => rfl, rfl⟩
theorem StK.tr {L S S' : Nat} {a b d : pn_S} (h : StK L S a b) (h2 : StK L S' b d) (hs : S ≤ S') : StK L S a d := ⟨h.1.tr h2.1, fun l q => (h2.2.1 l q).trans (h.2.1 l q), fun j q => (h2.2.2.1 j (by omega)).trans (h.2.2.1 j q), fun k q => (h2.2.2.2 k q).trans (h.2.2.2 k q)⟩
theorem StR.tr {S S' : Nat} {a b d : pn_S} (h : StR S a b) (h2 : StR S' b d) (hs : S ≤ S') : StR S a d := ⟨h.1.tr h2.1, fun k q => (h2.2.1 k (by omega)).trans (h.2.1 k q), h2.2.2.trans h.2.2⟩
theorem StK_1 {L S : Nat} {a b : pn_S} (h : Fr1 a b) : StK L S a b := ⟨⟨fun i q _ _ _ => h.1 i q, h.2⟩, fun l _ => by rw [h.1 24 (by omega)], fun j _ => by rw [h.1 25 (by omega)], fun k _ => by rw [h.1 21 (by omega)]⟩
theorem StR_P {S : Nat} {a b : pn_S} (h : FrP a b) : StR S a b := ⟨⟨fun i q _ => h.1 i q, fun k q1 q2 _ _ => h.2 k q1 q2, fun k _ => by rw [h.1 86 (by omega)]⟩, fun k _ => by rw [h.1 86 (by omega)], h.2 13 (by omega) (by omega)⟩
theorem MD.fr {σ σ' τ τ' : pn_S} {L S : Nat} (h : MD σ τ L S) (f : Fr1 σ σ') (g : FrP τ τ') : MD σ' τ' L S := by
  unfold MD
  rw [f.1 21 (by omega), f.1 24 (by omega), f.1 25 (by omega), g.2 16 (by omega) (by omega), g.1 86 (by omega)]
  exact h
def Sane (σ : pn_S) (L : Nat) : Prop := 1 ≤ L ∧ L ≤ 12 ∧ σ 21 6 = nI L ∧ ∃ S, S ≤ 400 ∧ σ 21 7 = nI S
theorem MD.sane {σ τ : pn_S} {L S : Nat} (h : MD σ τ L S) : Sane σ L := ⟨h.1, h.2.1, h.2.2.2.1, S, h.2.2.1, h.2.2.2.2.1⟩
theorem Sane.fr {σ σ' : pn_S} {L : Nat} (h : Sane σ L) (e : σ' 21 = σ 21) : Sane σ' L := by unfold Sane; rw [e]; exact h
theorem c_adc {σ : pn_S} {L S : Nat} (hL1 : 1 ≤ L) (hL : L ≤ 12) (h6 : σ 21 6 = nI L) (h7 : σ 21 7 = nI S) (hS : S < 400) (op : Int32) : fX2_addCode 21 op σ = some (pn_up (pn_up (pn_up σ 25 S op) 21 7 (nI (S + 1))) 24 L (nI (S + 1))) := by
  unfold fX2_addCode fX2_addCode_59
  have e0 : ¬ nI L ≤ 0 := by rw [q_le, nI_toInt (by omega)]; show ¬ _ ≤ (0 : Int); omega
  have e7 : pn_up σ 25 S op 21 7 = nI S := by rw [pn_up_a _ _ _ _ (by omega)]; exact h7
  have e6 : ∀ x, pn_up (pn_up σ 25 S op) 21 7 x 21 6 = nI L := fun x => by rw [pn_up_k _ _ _ _ (by omega), pn_up_a _ _ _ _ (by omega)]; exact h6
  rw [h6, if_neg e0, if_neg (show ¬ (12 : Int32) < nI L from nlt_nI (a := 12) (by omega) (by omega)), h7, if_neg (show ¬ (400 : Int32) ≤ nI S from nI_ge (b := 400) hS (by omega)), q_ib (by omega) (by omega), if_pos rfl, nI_clamp (by omega)]
  show (if pn_ib (pn_up (pn_up σ 25 S op) 21 7 (pn_up σ 25 S op 21 7 + 1) 21 6) 13 = true then some (pn_up (pn_up (pn_up σ 25 S op) 21 7 (pn_up σ 25 S op 21 7 + 1)) 24 (Int32.toNatClampNeg (pn_up (pn_up σ 25 S op) 21 7 (pn_up σ 25 S op 21 7 + 1) 21 6)) (pn_up (pn_up σ 25 S op) 21 7 (pn_up σ 25 S op 21 7 + 1) 21 7)) else none) = _
  rw [e7, e6, q_ib (by omega) (by omega), if_pos rfl, nI_clamp (by omega), pn_up_s, nI_1]
theorem r_emi {τ : pn_S} {S : Nat} (h : τ 85 16 = nI S) (hS : S < 400) (x y : Int32) : fX11_emits x y τ = some (pn_up (pn_up (pn_up τ 86 (1215 + 2 * S) x) 86 (1216 + 2 * S) y) 85 16 (nI (S + 1))) := by
  have e1 : (1215 : Int32) + 2 * nI S = nI (1215 + 2 * S) := by rw [q_lit 1215, q_lit 2, pk_mul, nI_add]
  have e2 : nI (1215 + 2 * S) + 1 = nI (1216 + 2 * S) := by rw [nI_1, show 1215 + 2 * S + 1 = 1216 + 2 * S by omega]
  unfold fX11_emits fX11_emits_44
  rw [h, e1, q_ib (by omega) (by omega), if_pos rfl, nI_clamp (by omega), pn_up_a _ _ _ _ (by omega), h, e1, e2, q_ib (by omega) (by omega), if_pos rfl, nI_clamp (by omega), pn_up_a _ _ _ _ (by omega), pn_up_a _ _ _ _ (by omega), h, nI_1]
/-- both emit -/
theorem j_emi {σ τ : pn_S} {L S : Nat} (h : MD σ τ L S) (hS : S < 400) {op x y : Int32} (hx : x = tS op) (hy : op < 1000 → y = op) : ∃ σ' τ', fX2_addCode 21 op σ = some σ' ∧ fX11_emits x y τ = some τ' ∧ MD σ' τ' L (S + 1) ∧ σ' 25 S = op ∧ StK L S σ σ' ∧ StR S τ τ' ∧ (∀ i, i ≠ 21 → i ≠ 24 → i ≠ 25 → σ' i = σ i) ∧ (∀ i, i ≠ 85 → i ≠ 86 → τ' i = τ i) ∧ (∀ k, k ≠ 16 → τ' 85 k = τ 85 k) := by
  obtain ⟨a1, a2, a3, a4, a5, a6, a7, a8⟩ := h
  refine ⟨_, _, c_adc a1 a2 a4 a5 hS op, r_emi a7 hS x y, ⟨a1, a2, by omega, ?_, ?_, pn_up_s _ _ _ _, pn_up_s _ _ _ _, fun j hj => ?_⟩, ?_, ⟨⟨fun i q1 q2 q3 q4 => ?_, fun k _ _ => ?_⟩, fun l hl => ?_, fun j hj => ?_, fun k hk => ?_⟩, ⟨⟨fun i q1 q2 => ?_, fun k _ _ _ q => ?_, fun k hk => ?_⟩, fun k hk => ?_, ?_⟩, fun i q1 q2 q3 => ?_, fun i q1 q2 => ?_, fun k hk => ?_⟩
  · rw [pn_up_a _ _ _ _ (by omega), pn_up_k _ _ _ _ (by omega), pn_up_a _ _ _ _ (by omega)]; exact a4
  · rw [pn_up_a _ _ _ _ (by omega), pn_up_s]
  · have a25 : pn_up (pn_up (pn_up σ 25 S op) 21 7 (nI (S + 1))) 24 L (nI (S + 1)) 25 j = pn_up σ 25 S op 25 j := by rw [pn_up_a _ _ _ _ (by omega), pn_up_a _ _ _ _ (by omega)]
    have b86 : ∀ k, pn_up (pn_up (pn_up τ 86 (1215 + 2 * S) x) 86 (1216 + 2 * S) y) 85 16 (nI (S + 1)) 86 k = pn_up (pn_up τ 86 (1215 + 2 * S) x) 86 (1216 + 2 * S) y 86 k := fun k => by rw [pn_up_a _ _ _ _ (by omega)]
    rw [a25, b86, b86]
    by_cases q : j = S
    · subst q
      rw [pn_up_k _ _ _ _ (by omega), pn_up_s, pn_up_s, pn_up_s]
      exact ⟨hx, hy⟩
    · rw [pn_up_k _ _ _ _ q, pn_up_k _ _ _ _ (show 1215 + 2 * j ≠ 1216 + 2 * S by omega), pn_up_k _ _ _ _ (show 1215 + 2 * j ≠ 1215 + 2 * S by omega), pn_up_k _ _ _ _ (show 1216 + 2 * j ≠ 1216 + 2 * S by omega), pn_up_k _ _ _ _ (show 1216 + 2 * j ≠ 1215 + 2 * S by omega)]
      exact a8 j (by omega)
  · rw [pn_up_a _ _ _ _ (by omega), pn_up_a _ _ _ _ (by omega), pn_up_s]
  · rw [pn_up_a _ _ _ _ q3, pn_up_a _ _ _ _ q2, pn_up_a _ _ _ _ q4]
  · rw [pn_up_a _ _ _ _ (by omega), pn_up_a _ _ _ _ (by omega), pn_up_a _ _ _ _ (by omega)]
  · rw [pn_up_k _ _ _ _ hl, pn_up_a _ _ _ _ (by omega), pn_up_a _ _ _ _ (by omega)]
  · rw [pn_up_a _ _ _ _ (by omega), pn_up_a _ _ _ _ (by omega), pn_up_k _ _ _ _ (by omega)]
  · rw [pn_up_a _ _ _ _ (by omega), pn_up_k _ _ _ _ hk, pn_up_a _ _ _ _ (by omega)]
  · rw [pn_up_a _ _ _ _ q1, pn_up_a _ _ _ _ q2, pn_up_a _ _ _ _ q2]
  · rw [pn_up_k _ _ _ _ q, pn_up_a _ _ _ _ (by omega), pn_up_a _ _ _ _ (by omega)]
  · rw [pn_up_a _ _ _ _ (by omega), pn_up_k _ _ _ _ (by omega), pn_up_k _ _ _ _ (by omega)]
  · rw [pn_up_a _ _ _ _ (by omega), pn_up_k _ _ _ _ (by omega), pn_up_k _ _ _ _ (by omega)]
  · rw [pn_up_k _ _ _ _ (by omega), pn_up_a _ _ _ _ (by omega), pn_up_a _ _ _ _ (by omega)]
  · rw [pn_up_a _ _ _ _ q2, pn_up_a _ _ _ _ q1, pn_up_a _ _ _ _ q3]
  · rw [pn_up_a _ _ _ _ q1, pn_up_a _ _ _ _ q2, pn_up_a _ _ _ _ q2]
  · rw [pn_up_k _ _ _ _ hk, pn_up_a _ _ _ _ (by omega), pn_up_a _ _ _ _ (by omega)]
theorem js_emi {σ σ' τ τ' : pn_S} {k i : Nat} (h : JS c w n T P m σ τ k i) (h1 : ∀ i, i ≠ 21 → i ≠ 24 → i ≠ 25 → σ' i = σ i) (h2 : ∀ i, i ≠ 85 → i ≠ 86 → τ' i = τ i) (h3 : ∀ k, k ≠ 16 → τ' 85 k = τ 85 k) : JS c w n T P m σ' τ' k i := h.v (h1 1 (by omega) (by omega) (by omega)) (h1 3 (by omega) (by omega) (by omega)) (h1 4 (by omega) (by omega) (by omega)) (h3 10 (by omega)) (h3 11 (by omega)) (h2 91 (by omega) (by omega))
/-- the class alone emits, behind something wrong -/
theorem sane_adc {σ : pn_S} {L : Nat} (h : Sane σ L) (op : Int32) : ∃ σ', fX2_addCode 21 op σ = some σ' ∧ Sane σ' L ∧ WkK σ σ' ∧ σ' 1 = σ 1 := by
  obtain ⟨a1, a2, a3, S, a4, a5⟩ := h
  by_cases q : S < 400
  · refine ⟨_, c_adc a1 a2 a3 a5 q op, ⟨a1, a2, ?_, S + 1, by omega, ?_⟩, ⟨fun i q1 q2 q3 q4 => ?_, fun k _ _ => ?_⟩, ?_⟩
    · rw [pn_up_a _ _ _ _ (by omega), pn_up_k _ _ _ _ (by omega), pn_up_a _ _ _ _ (by omega)]; exact a3
    · rw [pn_up_a _ _ _ _ (by omega), pn_up_s]
    · rw [pn_up_a _ _ _ _ q3, pn_up_a _ _ _ _ q2, pn_up_a _ _ _ _ q4]
    · rw [pn_up_a _ _ _ _ (by omega), pn_up_a _ _ _ _ (by omega), pn_up_a _ _ _ _ (by omega)]
    · rw [pn_up_a _ _ _ _ (by omega), pn_up_a _ _ _ _ (by omega), pn_up_a _ _ _ _ (by omega)]
  · refine ⟨σ, ?_, ⟨a1, a2, a3, S, a4, a5⟩, WkK.rf, rfl⟩
    unfold fX2_addCode
    have e0 : ¬ nI L ≤ 0 := by rw [q_le, nI_toInt (by omega)]; show ¬ _ ≤ (0 : Int); omega
    rw [a3, if_neg e0, if_neg (show ¬ (12 : Int32) < nI L from nlt_nI (a := 12) (by omega) (by omega)), a5, if_pos (show (400 : Int32) ≤ nI S from nI_le (a := 400) (by omega) (by omega))]
/-- a piece of a condition, read by both -/
def JC (c w : Nat → Int32) (n : Nat) (T P : Nat → Int32) (m : Nat) (Q : List Int32 → Prop) (L : Nat) (σ τ : pn_S) (i S : Nat) (oc or : Option (Int32 × pn_S)) : Prop :=
  (∃ σ' τ' k' i' S', oc = some (1, σ') ∧ or = some (1, τ') ∧ JS c w n T P m σ' τ' k' i' ∧ MD σ' τ' L S' ∧ S ≤ S' ∧ S' + i ≤ S + i' ∧ Q (sg (σ' 25) S S') ∧ StK L S σ σ' ∧ StR S τ τ') ∨
  (∃ σ' τ' p, oc = some (0, σ') ∧ or = some (0, τ') ∧ p ≤ n ∧ σ' 1 7 = nI p ∧ τ' 85 12 = nI p ∧ Sane σ' L ∧ WkK σ σ' ∧ WkR τ τ')
theorem sg_self (cd : Nat → Int32) (a : Nat) : sg cd a a = [] := by unfold sg; rw [Nat.sub_self]; rfl
theorem sg_one (cd : Nat → Int32) (a : Nat) : sg cd a (a + 1) = [cd a] := by
  unfold sg
  rw [show a + 1 - a = 1 by omega]
  rfl
theorem sg_app (cd : Nat → Int32) {a b d : Nat} (h1 : a ≤ b) (h2 : b ≤ d) : sg cd a d = sg cd a b ++ sg cd b d := by
  unfold sg
  rw [show d - a = (b - a) + (d - b) by omega, List.range_add, List.map_append, List.map_map]
  congr 1
  refine List.map_congr_left fun x _ => ?_
  show cd (a + (b - a + x)) = cd (b + x)
  rw [show a + (b - a + x) = b + x by omega]
theorem sg_c {cd cd' : Nat → Int32} {a b : Nat} (h : ∀ j, a ≤ j → j < b → cd j = cd' j) : sg cd a b = sg cd' a b := by
  unfold sg
  refine List.map_congr_left fun x hx => ?_
  rw [List.mem_range] at hx
  exact h _ (by omega) (by omega)
/-! sums -/
def isS (x : Int32) : Prop := x = 1002 ∨ x = 1004 ∨ x = 1007 ∨ x = 1015 ∨ x = 1024 ∨ x = 1025 ∨ x = 1026 ∨ x ≤ 999
theorem c_isS (x : Int32) (σ : pn_S) : (isS x → fX3_isSumPart x σ = some 1) ∧ (¬ isS x → fX3_isSumPart x σ = some 0) := by
  unfold fX3_isSumPart isS
  by_cases h1 : x = 1002
  · rw [if_pos h1]; exact ⟨fun _ => rfl, fun q => absurd (Or.inl h1) q⟩
  rw [if_neg h1]
  by_cases h2 : x = 1004
  · rw [if_pos h2]; exact ⟨fun _ => rfl, fun q => absurd (Or.inr (Or.inl h2)) q⟩
  rw [if_neg h2]
  by_cases h3 : x = 1007
  · rw [if_pos h3]; exact ⟨fun _ => rfl, fun q => absurd (Or.inr (Or.inr (Or.inl h3))) q⟩
  rw [if_neg h3]
  by_cases h4 : x = 1015
  · rw [if_pos h4]; exact ⟨fun _ => rfl, fun q => absurd (Or.inr (Or.inr (Or.inr (Or.inl h4)))) q⟩
  rw [if_neg h4]
  by_cases h5 : x = 1024
  · rw [if_pos h5]; exact ⟨fun _ => rfl, fun q => absurd (Or.inr (Or.inr (Or.inr (Or.inr (Or.inl h5))))) q⟩
  rw [if_neg h5]
  by_cases h6 : x = 1025
  · rw [if_pos h6]; exact ⟨fun _ => rfl, fun q => absurd (Or.inr (Or.inr (Or.inr (Or.inr (Or.inr (Or.inl h6)))))) q⟩
  rw [if_neg h6]
  by_cases h7 : x = 1026
  · rw [if_pos h7]; exact ⟨fun _ => rfl, fun q => absurd (Or.inr (Or.inr (Or.inr (Or.inr (Or.inr (Or.inr (Or.inl h7))))))) q⟩
  rw [if_neg h7]
  by_cases h8 : 999 < x
  · rw [if_pos h8]
    refine ⟨fun q => ?_, fun _ => rfl⟩
    have : x ≤ 999 := ((((((q.resolve_left h1).resolve_left h2).resolve_left h3).resolve_left h4).resolve_left h5).resolve_left h6).resolve_left h7
    rw [q_lt] at h8
    rw [q_le] at this
    omega
  · rw [if_neg h8]
    exact ⟨fun _ => rfl, fun q => absurd (Or.inr (Or.inr (Or.inr (Or.inr (Or.inr (Or.inr (Or.inr (by rw [q_lt] at h8; rw [q_le]; omega))))))) ) q⟩
theorem isS_ex {x : Int32} (h : isS x) (F : Nat → Int32) {st : List Int32} (hs : st.length < 31) : ∃ v, ex1 F x st = some (v :: st) := by
  unfold ex1
  by_cases q : x < 1000
  · rw [if_pos q, if_pos hs]; exact ⟨_, rfl⟩
  · rw [if_neg q]
    have nx : ¬ x ≤ 999 := fun z => q (by rw [q_le] at z; rw [q_lt]; have e : (999 : Int32).toInt = 999 := rfl; have e2 : (1000 : Int32).toInt = 1000 := rfl; omega)
    rcases h with rfl | rfl | rfl | rfl | rfl | rfl | rfl | h
    · rw [if_neg (by decide), if_neg (by decide), if_neg (by decide), if_neg (by decide), if_neg (by decide), if_neg (by decide), if_pos (by decide), if_pos hs]; exact ⟨_, rfl⟩
    · rw [if_neg (by decide), if_neg (by decide), if_neg (by decide), if_neg (by decide), if_neg (by decide), if_neg (by decide), if_pos (by decide), if_pos hs]; exact ⟨_, rfl⟩
    · rw [if_neg (by decide), if_neg (by decide), if_neg (by decide), if_neg (by decide), if_neg (by decide), if_neg (by decide), if_pos (by decide), if_pos hs]; exact ⟨_, rfl⟩
    · rw [if_neg (by decide), if_neg (by decide), if_neg (by decide), if_neg (by decide), if_neg (by decide), if_neg (by decide), if_pos (by decide), if_pos hs]; exact ⟨_, rfl⟩
    · rw [if_neg (by decide), if_neg (by decide), if_neg (by decide), if_neg (by decide), if_neg (by decide), if_neg (by decide), if_pos (by decide), if_pos hs]; exact ⟨_, rfl⟩
    · rw [if_neg (by decide), if_neg (by decide), if_neg (by decide), if_neg (by decide), if_neg (by decide), if_neg (by decide), if_pos (by decide), if_pos hs]; exact ⟨_, rfl⟩
    · rw [if_neg (by decide), if_neg (by decide), if_neg (by decide), if_neg (by decide), if_neg (by decide), if_neg (by decide), if_pos (by decide), if_pos hs]; exact ⟨_, rfl⟩
    · exact absurd h nx
/-- the reference's part: what it emits, and whether it can stand there -/
theorem r_part (hb : HB c w n) {τ : pn_S} {i S : Nat} (h : RJ w n i τ) (h16 : τ 85 16 = nI S) (hS : S < 400) : ∃ τ1, FrP τ τ1 ∧ τ1 85 12 = nI (sk c n i) ∧ ((isS (cod c n (sk c n i)) ∧ RJ w n (en c n (sk c n i)) τ1 ∧ ∃ y, (cod c n (sk c n i) < 1000 → y = cod c n (sk c n i)) ∧ fX11_readPart τ = (fX11_emits (tS (cod c n (sk c n i))) y τ1).bind fun σ7 => some ((1 : Int32), σ7)) ∨ (¬ isS (cod c n (sk c n i)) ∧ ∃ x y, fX11_readPart τ = (fX11_emits x y τ1).bind fun σ7 => some ((0 : Int32), σ7))) := by
  obtain ⟨τ1, g1, g2, g3⟩ := r_let hb h
  obtain ⟨s1, s2⟩ := sk_le (c := c) h.2.2.2
  generalize hs : sk c n i = s at g2 s1 s2
  have hn := hb.1
  have ss : sk c n s = s := by rw [← hs]; exact sk_sk i
  unfold fX11_readPart
  rw [g1, Option.bind_some, g2.1.1, g2.2.1]
  have e999 : (999 : Int32).toInt = 999 := rfl
  have e1000 : (1000 : Int32).toInt = 1000 := rfl
  cases z : inB c n 97 122 s with
  | false =>
    have el : lt c n s = s := rnn_f z
    have rj : RJ w n s τ1 := by have := g2.1; rw [el] at this; exact this
    obtain ⟨τ2, k1, k2, k3, k4⟩ := r_num hb rj 999
    rw [ss] at k1 k2 k3
    refine ⟨τ2, g3.tr k4, k3, ?_⟩
    rw [if_pos (by rw [el])]
    unfold fX11_readPart_20 fX11_readPart_40 fX11_readPart_52 fX11_readPart_61
    rw [if_neg (by decide), k1, bi_some, if_neg (by decide), if_neg (by decide)]
    unfold nok
    by_cases y : cod c n s ≤ 999
    · refine Or.inl ⟨Or.inr (Or.inr (Or.inr (Or.inr (Or.inr (Or.inr (Or.inr y)))))), ?_, cod c n s, fun _ => rfl, ?_⟩
      · rw [(num_en hb (by rw [q_le] at y; omega)).1]; exact k2
      · have t10 : tS (cod c n s) = 10 := by unfold tS; rw [if_pos (by rw [q_le] at y; rw [q_lt]; omega)]
        have hng : ¬ cod c n s < 0 := by rw [q_lt]; have := (cod_rg hb s).1; show ¬ _ < (0 : Int); omega
        rw [if_pos ⟨y, y⟩, t10]
        simp only [if_neg hng]
    · refine Or.inr ⟨fun q => ?_, 10, -1, by rw [if_neg (fun u => y u.1)]; simp only [if_pos (show (-1 : Int32) < 0 by decide)]⟩
      have wd : ∀ k, k < 27 → ¬ cod c n s = nI (1000 + k) := fun k hk u => by
        obtain ⟨v1, v2⟩ := wd_en hb s2 hk u
        have := en_gt c (n := n) (s := s)
        omega
      rcases q with q | q | q | q | q | q | q | q
      · exact wd 2 (by omega) q
      · exact wd 4 (by omega) q
      · exact wd 7 (by omega) q
      · exact wd 15 (by omega) q
      · exact wd 24 (by omega) q
      · exact wd 25 (by omega) q
      · exact wd 26 (by omega) q
      · exact y q
  | true =>
    have gt : s < lt c n s := rnn_gt inB_n z
    have le : lt c n s ≤ n := rnn_le _ s2
    have ee : en c n s = lt c n s := by unfold en; rw [if_pos z]
    have ec : cod c n s = wco c s (lt c n s) := by unfold cod; rw [if_neg (by have := (inB_lt z).1; omega), if_pos z]
    have big : ¬ cod c n s ≤ 999 := by rw [ec, q_le]; have := (wco_hi c s (lt c n s)).1; omega
    have big2 : ¬ cod c n s < 1000 := by rw [ec, q_lt]; have := (wco_hi c s (lt c n s)).1; omega
    have wd : ∀ q, q < 27 → fX11_isWord (sid.getD q 0) τ1 = some (b01 (decide (cod c n s = nI (1000 + q)))) := fun q hq => r_wd hb g2 hq
    have w24 : fX11_isWord 23 τ1 = some (b01 (decide (cod c n s = 1024))) := wd 24 (by omega)
    have w2 : fX11_isWord 3 τ1 = some (b01 (decide (cod c n s = 1002))) := wd 2 (by omega)
    have w25 : fX11_isWord 24 τ1 = some (b01 (decide (cod c n s = 1025))) := wd 25 (by omega)
    have w7 : fX11_isWord 8 τ1 = some (b01 (decide (cod c n s = 1007))) := wd 7 (by omega)
    have w4 : fX11_isWord 5 τ1 = some (b01 (decide (cod c n s = 1004))) := wd 4 (by omega)
    have w26 : fX11_isWord 25 τ1 = some (b01 (decide (cod c n s = 1026))) := wd 26 (by omega)
    have w15 : fX11_isWord 16 τ1 = some (b01 (decide (cod c n s = 1015))) := wd 15 (by omega)
    have T1 : ¬ b01 true = 0 := by decide
    have F1 : b01 false = 0 := rfl
    refine ⟨τ1, g3, g2.2.1, ?_⟩
    rw [if_neg (fun u => by have := (nI_eq (by omega) (by omega)).mp u; omega)]
    unfold fX11_readPart_20 fX11_readPart_40 fX11_readPart_52 fX11_readPart_61
    rw [if_pos rfl]
    simp only [if_pos (show (0 : Int32) = 0 from rfl), if_true]
    unfold fX11_wordOfPart
    rw [w24, Option.bind_some, w2, Option.bind_some, w25, Option.bind_some, w7, Option.bind_some, w4, Option.bind_some, w26, Option.bind_some, w15, Option.bind_some]
    have fin : ∀ v : Int32, isS (cod c n s) → tS (cod c n s) = v → ¬ v < 0 → (isS (cod c n s) ∧ RJ w n (en c n s) τ1 ∧ ∃ y, (cod c n s < 1000 → y = cod c n s) ∧ ((fX11_emits v 0 τ1).bind fun σ7 => if v < 0 then some ((0 : Int32), σ7) else some ((1 : Int32), σ7)) = (fX11_emits (tS (cod c n s)) y τ1).bind fun σ7 => some ((1 : Int32), σ7)) := fun v i1 i2 i3 => ⟨i1, by rw [ee]; exact g2.1, 0, fun u => absurd u big2, by rw [i2]; simp only [if_neg i3]⟩
    by_cases h24 : cod c n s = 1024
    · rw [decide_eq_true h24, if_neg T1, Option.bind_some]
      exact Or.inl (fin 0 (by unfold isS; simp [h24]) (by rw [h24]; decide) (by decide))
    · rw [decide_eq_false h24, if_pos F1]
      by_cases h2 : cod c n s = 1002
      · rw [decide_eq_true h2, if_neg T1, Option.bind_some]
        exact Or.inl (fin 1 (by unfold isS; simp [h2]) (by rw [h2]; decide) (by decide))
      · rw [decide_eq_false h2, if_pos F1]
        by_cases h25 : cod c n s = 1025
        · rw [decide_eq_true h25, if_neg T1, Option.bind_some]
          exact Or.inl (fin 2 (by unfold isS; simp [h25]) (by rw [h25]; decide) (by decide))
        · rw [decide_eq_false h25, if_pos F1]
          by_cases h7 : cod c n s = 1007
          · rw [decide_eq_true h7, if_neg T1, Option.bind_some]
            exact Or.inl (fin 3 (by unfold isS; simp [h7]) (by rw [h7]; decide) (by decide))
          · rw [decide_eq_false h7, if_pos F1]
            by_cases h4 : cod c n s = 1004
            · rw [decide_eq_true h4, if_neg T1, Option.bind_some]
              exact Or.inl (fin 4 (by unfold isS; simp [h4]) (by rw [h4]; decide) (by decide))
            · rw [decide_eq_false h4, if_pos F1]
              by_cases h26 : cod c n s = 1026
              · rw [decide_eq_true h26, if_neg T1, Option.bind_some]
                exact Or.inl (fin 5 (by unfold isS; simp [h26]) (by rw [h26]; decide) (by decide))
              · rw [decide_eq_false h26, if_pos F1]
                by_cases h15 : cod c n s = 1015
                · rw [decide_eq_true h15, if_neg T1, Option.bind_some]
                  exact Or.inl (fin 6 (by unfold isS; simp [h15]) (by rw [h15]; decide) (by decide))
                · rw [decide_eq_false h15, if_pos F1, Option.bind_some]
                  refine Or.inr ⟨fun q => ?_, -1, 0, by simp only [if_pos (show (-1 : Int32) < 0 by decide), if_true]⟩
                  rcases q with q | q | q | q | q | q | q | q
                  · exact h2 q
                  · exact h4 q
                  · exact h7 q
                  · exact h15 q
                  · exact h24 q
                  · exact h25 q
                  · exact h26 q
                  · exact big q
end
