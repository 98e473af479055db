/-! PURE: what is remembered -/
def CPa (σ : pn_S) (m x : Nat) (W : Nat → pn_V) : Prop := m ≤ 12 ∧ x < 12 ∧ σ 41 1 = nI m ∧ σ 41 2 = nI x ∧ ∀ j, j < m → CV σ (43 + 3 * ((x + 11 - j) % 12)) (W j)
def RPa (σ : pn_S) (m : Nat) (W : Nat → pn_V) : Prop := σ 85 7 = nI m ∧ ∀ j, j < m → ∀ k, k < 317 → σ 90 (317 * (m - 1 - j) + k) = W j k
def GPa (m : Nat) (W : Nat → pn_V) (y : Int32) : Prop := ∀ j, j < m → VW (W j) ∧ W j 2 = y
theorem pst_of {σ : pn_S} {m x : Nat} {W : Nat → pn_V} (h1 : CPa σ m x W) (h2 : RPa σ m W) (h3 : GPa m W (σ 86 2)) : Pst σ := by
  obtain ⟨a1, a2, a3, a4, a5⟩ := h1
  refine ⟨m, x, a1, a2, a3, a4, h2.1, fun j hj => ?_⟩
  have e : ∀ k, k < 317 → vsl σ (m - 1 - j) k = W j k := fun k hk => h2.2 j hj k hk
  have w := (h3 j hj).1
  exact ⟨cv_V (a5 j hj) w.n.2 w.l.2 fun k hk _ => e k hk, vw_V w fun k hk _ => e k hk, (e 2 (by omega)).trans (h3 j hj).2⟩
theorem pst_to {σ : pn_S} (h : Pst σ) : ∃ m x W, CPa σ m x W ∧ RPa σ m W ∧ GPa m W (σ 86 2) := by
  obtain ⟨m, x, a1, a2, a3, a4, a5, a6⟩ := h
  exact ⟨m, x, fun j => vsl σ (m - 1 - j), ⟨a1, a2, a3, a4, fun j hj => (a6 j hj).1⟩, ⟨a5, fun j hj k hk => rfl⟩, fun j hj => (a6 j hj).2⟩
theorem cp_fr {σ σ' : pn_S} {m x : Nat} {W : Nat → pn_V} (h : CPa σ m x W) (h1 : σ' 41 = σ 41) (h2 : ∀ i, 43 ≤ i → i ≤ 78 → σ' i = σ i) : CPa σ' m x W := by
  obtain ⟨a1, a2, a3, a4, a5⟩ := h
  refine ⟨a1, a2, by rw [h1]; exact a3, by rw [h1]; exact a4, fun j hj => ?_⟩
  exact cv_fr (a5 j hj) (h2 _ (by omega) (by omega)) (h2 _ (by omega) (by omega)) (h2 _ (by omega) (by omega))
def csn (V : pn_V) (W : Nat → pn_V) : Nat → pn_V := fun j => if j = 0 then V else W (j - 1)
def mn12 (m : Nat) : Nat := if m < 12 then m + 1 else 12
/-- what an act of the class leaves as it was -/
def FrA (σ σ' : pn_S) : Prop := (∀ i, i ≠ 5 → i ≠ 6 → i ≠ 7 → i ≠ 14 → i ≠ 19 → i ≠ 20 → i ≠ 37 → i ≠ 38 → i ≠ 39 → i ≠ 40 → i ≠ 41 → (i < 43 ∨ 78 < i) → σ' i = σ i) ∧ ∀ k, k ≠ 8 → k ≠ 9 → k ≠ 10 → σ' 14 k = σ 14 k
theorem FrA.rf {σ : pn_S} : FrA σ σ := ⟨fun _ _ _ _ _ _ _ _ _ _ _ _ _ => rfl, fun _ _ _ _ => rfl⟩
theorem FrA.tr {a b c : pn_S} (h : FrA a b) (h2 : FrA b c) : FrA a c := ⟨fun i q1 q2 q3 q4 q5 q6 q7 q8 q9 q10 q11 q12 => (h2.1 i q1 q2 q3 q4 q5 q6 q7 q8 q9 q10 q11 q12).trans (h.1 i q1 q2 q3 q4 q5 q6 q7 q8 q9 q10 q11 q12), fun k q1 q2 q3 => (h2.2 k q1 q2 q3).trans (h.2 k q1 q2 q3)⟩
theorem FrA_C {a b : pn_S} (h : FrC a b) : FrA a b := ⟨fun i _ _ _ q4 q5 q6 q7 q8 q9 q10 _ _ => h.1 i q4 q5 q6 q7 q8 q9 q10, h.2⟩
theorem FrA_N {a b : pn_S} (h : FrN 5 a b) : FrA a b := ⟨fun i q1 q2 q3 q4 q5 q6 q7 q8 q9 q10 _ _ => h.1 i q1 q2 q3 q4 q5 q6 q7 q8 q9 q10, h.2⟩
theorem FrA_fr {a b : pn_S} (h : Fr (fun i => i = 5 ∨ i = 6 ∨ i = 7 ∨ i = 41 ∨ (43 ≤ i ∧ i ≤ 78)) a b) : FrA a b := ⟨fun i q1 q2 q3 q4 q5 q6 q7 q8 q9 q10 q11 q12 => h i (by omega), fun k _ _ _ => by rw [h 14 (by omega)]⟩
/-- what an act of the reference leaves as it was -/
def FrB (σ σ' : pn_S) : Prop := (∀ i, i ≠ 85 → i ≠ 86 → i ≠ 89 → i ≠ 90 → i ≠ 93 → i ≠ 94 → i ≠ 95 → σ' i = σ i) ∧ ∀ k, k ≠ 7 → k ≠ 20 → σ' 85 k = σ 85 k
theorem FrB.rf {σ : pn_S} : FrB σ σ := ⟨fun _ _ _ _ _ _ _ _ => rfl, fun _ _ _ => rfl⟩
theorem FrB.tr {a b c : pn_S} (h : FrB a b) (h2 : FrB b c) : FrB a c := ⟨fun i q1 q2 q3 q4 q5 q6 q7 => (h2.1 i q1 q2 q3 q4 q5 q6 q7).trans (h.1 i q1 q2 q3 q4 q5 q6 q7), fun k q1 q2 => (h2.2 k q1 q2).trans (h.2 k q1 q2)⟩
theorem FrB_R {a b : pn_S} (h : FrR a b) : FrB a b := ⟨fun i q1 _ _ _ q5 q6 q7 => h.1 i q1 q5 q6 q7, fun k _ q => h.2 k q⟩
theorem FrB_RN {a b : pn_S} (h : FrRN a b) : FrB a b := ⟨fun i q1 q2 _ _ q5 q6 q7 => h.1 i q1 q2 q5 q6 q7, fun k _ q => h.2 k q⟩
theorem FrB_fr {a b : pn_S} (h : Fr (fun i => i = 86 ∨ i = 89 ∨ i = 90) a b) : FrB a b := ⟨fun i _ q2 q3 q4 _ _ _ => h i (by omega), fun k _ _ => by rw [h 85 (by omega)]⟩
theorem m12 : ∀ x, x < 12 → (nI x + 1) - (nI x + 1) / 12 * 12 = nI ((x + 1) % 12) := by decide +kernel
theorem mn12_eq {m : Nat} (h : m ≤ 12) (σ : pn_S) : fJ9_min_7cf53 12 (nI m + 1) σ = some (nI (mn12 m)) := by
  rw [jmin, nI_1]
  unfold mn12
  by_cases q : m < 12
  · rw [if_pos q]
    by_cases q2 : m + 1 < 12
    · rw [if_pos (show nI (m + 1) < 12 from nI_lt (b := 12) q2 (by omega))]
    · rw [if_neg (show ¬ nI (m + 1) < 12 from nlt_nI (a := m + 1) (b := 12) (by omega) (by omega))]
      rw [show m + 1 = 12 by omega]
      rfl
  · rw [if_neg q, if_neg (show ¬ nI (m + 1) < 12 from nlt_nI (a := m + 1) (b := 12) (by omega) (by omega))]
    rfl
theorem c_rem {σ : pn_S} {V : pn_V} {m x : Nat} {W : Nat → pn_V} (hC : CV σ 5 V) (hw : VW V) (hP : CPa σ m x W) : ∃ σ', fX5_remember 5 σ = some σ' ∧ CV σ' 5 V ∧ CPa σ' (mn12 m) ((x + 1) % 12) (csn V W) ∧ FrA σ σ' := by
  obtain ⟨a1, a2, a3, a4, a5⟩ := hP
  obtain ⟨c1, c2, c3⟩ := c_copy (v := 43 + 3 * x) hC hw (by omega)
  have g41 : cpV σ (43 + 3 * x) 5 41 = σ 41 := c3 41 (by omega)
  refine ⟨pn_up (pn_up (cpV σ (43 + 3 * x) 5) 41 2 (nI ((x + 1) % 12))) 41 1 (nI (mn12 m)), ?_, ?_, ?_, ?_⟩
  · unfold fX5_remember
    rw [a4, q_ib (by omega) (by omega), if_pos rfl, nI_clamp (by omega), c1, Option.bind_some, g41, a4, m12 x a2, pn_up_k _ _ _ _ (by omega), g41, a3, mn12_eq a1, Option.bind_some]
  · exact cv_fr hC (by rw [pn_up_a _ _ _ _ (by omega), pn_up_a _ _ _ _ (by omega), c3 _ (by omega)]) (by rw [pn_up_a _ _ _ _ (by omega), pn_up_a _ _ _ _ (by omega), c3 _ (by omega)]) (by rw [pn_up_a _ _ _ _ (by omega), pn_up_a _ _ _ _ (by omega), c3 _ (by omega)])
  · have hm : mn12 m ≤ 12 := by unfold mn12; split <;> omega
    refine ⟨hm, by omega, by rw [pn_up_s], by rw [pn_up_k _ _ _ _ (by omega), pn_up_s], fun j hj => ?_⟩
    have ek : ∀ i, 43 ≤ i → pn_up (pn_up (cpV σ (43 + 3 * x) 5) 41 2 (nI ((x + 1) % 12))) 41 1 (nI (mn12 m)) i = cpV σ (43 + 3 * x) 5 i := fun i hi => by rw [pn_up_a _ _ _ _ (by omega), pn_up_a _ _ _ _ (by omega)]
    unfold csn
    by_cases j0 : j = 0
    · rw [if_pos j0, show ((x + 1) % 12 + 11 - j) % 12 = x by omega]
      exact cv_fr c2 (ek _ (by omega)) (ek _ (by omega)) (ek _ (by omega))
    · have hj2 : j - 1 < m := by unfold mn12 at hj; split at hj <;> omega
      have hj3 : j < 12 := by omega
      rw [if_neg j0, show ((x + 1) % 12 + 11 - j) % 12 = (x + 11 - (j - 1)) % 12 by omega]
      have ne : (x + 11 - (j - 1)) % 12 ≠ x := by omega
      exact cv_fr (a5 (j - 1) hj2) (by rw [ek _ (by omega), c3 _ (by omega)]) (by rw [ek _ (by omega), c3 _ (by omega)]) (by rw [ek _ (by omega), c3 _ (by omega)])
  · refine FrA_fr fun i hi => ?_
    rw [pn_up_a _ _ _ _ (by omega), pn_up_a _ _ _ _ (by omega), c3 _ (by omega)]
/-! copying rows -/
def cpy (old src : Nat → Int32) (base k : Nat) : Nat → Int32 := fun j => if base ≤ j ∧ j < base + k then src (j - base) else old j
theorem cpy_0 (τ : pn_S) (b base : Nat) (src : Nat → Int32) : pn_ua τ b (cpy (τ b) src base 0) = τ := by
  have : cpy (τ b) src base 0 = τ b := by funext j; unfold cpy; rw [if_neg (by omega)]
  rw [this, ua_self]
theorem cpy_s (τ : pn_S) (b base k : Nat) (src : Nat → Int32) : pn_up (pn_ua τ b (cpy (τ b) src base k)) b (base + k) (src k) = pn_ua τ b (cpy (τ b) src base (k + 1)) := by
  funext i j
  by_cases h : i = b
  · subst h
    by_cases h2 : j = base + k
    · subst h2
      rw [pn_up_s, pn_ua_s]
      unfold cpy
      rw [if_pos (by omega), show base + k - base = k by omega]
    · rw [pn_up_k _ _ _ _ h2, pn_ua_s, pn_ua_s]
      unfold cpy
      by_cases h3 : base ≤ j ∧ j < base + k
      · rw [if_pos h3, if_pos (by omega)]
      · rw [if_neg h3, if_neg (by omega)]
  · rw [pn_up_a _ _ _ _ h, pn_ua_a _ _ _ h, pn_ua_a _ _ _ h]
theorem prd_nI {r : Nat} (h : 1 ≤ r) : nI r - 1 = nI (r - 1) := by
  obtain ⟨q, rfl⟩ : ∃ q, r = q + 1 := ⟨r - 1, by omega⟩
  rw [← nI_1, show q + 1 - 1 = q by omega]
  grind
theorem r_rem55 {τ : pn_S} {r : Nat} (h1 : 1 ≤ r) (h2 : r ≤ 12) (h7 : τ 85 7 = nI r) : fX11_remembers_55 5000 0 τ = some (pn_ua τ 90 (cpy (τ 90) (τ 86) (317 * (r - 1)) 317)) := by
  obtain ⟨s, g1, g2⟩ := lpE (n := 317) (F := fun f k s => fX11_remembers_55 f (nI k) s) (out := fun s => some s) (fun k s => s = pn_ua τ 90 (cpy (τ 90) (τ 86) (317 * (r - 1)) k))
    (fun f s _ => by rw [fX11_remembers_55, if_pos (show (317 : Int32) ≤ nI 317 by decide)])
    (fun f k s hk hs => by
      refine ⟨_, ?_, cpy_s τ 90 (317 * (r - 1)) k (τ 86)⟩
      have e7 : s 85 7 = nI r := by rw [hs, pn_ua_a _ _ _ (by omega)]; exact h7
      have e86 : s 86 = τ 86 := by rw [hs, pn_ua_a _ _ _ (by omega)]
      have ei : (317 : Int32) * (nI r - 1) + nI k = nI (317 * (r - 1) + k) := by rw [prd_nI h1, q_lit 317, pk_mul, nI_add]
      rw [fX11_remembers_55, if_neg (show ¬ (317 : Int32) ≤ nI k from nI_ge (b := 317) hk (by omega)), q_ib (by omega) (by omega), if_pos rfl, e7, ei, q_ib (by omega) (by omega), if_pos rfl, nI_1, nI_clamp (by omega), nI_clamp (by omega), e86, hs]) 317 0 5000 τ (by omega) (by omega) (cpy_0 _ _ _ _).symm
  refine g1.trans ?_
  rw [g2]
theorem r_rem11 {τ : pn_S} : fX11_remembers_11 5000 0 τ = fX11_remembers_55 5000 0 (pn_ua τ 90 (cpy (τ 90) (fun k => τ 90 (k + 317)) 0 3487)) := by
  obtain ⟨s, g1, g2⟩ := lpE (n := 3487) (F := fun f k s => fX11_remembers_11 f (nI k) s) (out := fun s => fX11_remembers_55 5000 0 s) (fun k s => s = pn_ua τ 90 (cpy (τ 90) (fun k => τ 90 (k + 317)) 0 k))
    (fun f s _ => by rw [fX11_remembers_11, if_pos (show (3487 : Int32) ≤ nI 3487 by decide)])
    (fun f k s hk hs => by
      refine ⟨_, ?_, cpy_s τ 90 0 k (fun k => τ 90 (k + 317))⟩
      have e90 : s 90 (k + 317) = τ 90 (k + 317) := by rw [hs, pn_ua_s]; unfold cpy; rw [if_neg (by omega)]
      have ei : nI k + 317 = nI (k + 317) := by rw [q_lit 317, nI_add]
      rw [fX11_remembers_11, if_neg (show ¬ (3487 : Int32) ≤ nI k from nI_ge (b := 3487) hk (by omega)), ei, q_ib (by omega) (by omega), if_pos rfl, q_ib (by omega) (by omega), if_pos rfl, nI_1, nI_clamp (by omega), nI_clamp (by omega), e90, hs, Nat.zero_add]) 3487 0 5000 τ (by omega) (by omega) (cpy_0 _ _ _ _).symm
  refine g1.trans ?_
  rw [g2]
theorem r_rem {τ : pn_S} {m : Nat} {W : Nat → pn_V} (hm : m ≤ 12) (hP : RPa τ m W) : ∃ τ', fX11_remembers τ = some τ' ∧ RPa τ' (mn12 m) (csn (τ 86) W) ∧ FrB τ τ' ∧ τ' 86 = τ 86 := by
  obtain ⟨h7, h90⟩ := hP
  unfold fX11_remembers
  by_cases q : m = 12
  · subst q
    have e7 : (pn_ua τ 90 (cpy (τ 90) (fun k => τ 90 (k + 317)) 0 3487)) 85 7 = nI 12 := by rw [pn_ua_a _ _ _ (by omega)]; exact h7
    rw [h7, if_pos (show nI 12 = 12 from rfl), r_rem11, r_rem55 (r := 12) (by omega) (by omega) e7]
    refine ⟨_, rfl, ⟨by rw [pn_ua_a _ _ _ (by omega)]; exact e7, fun j hj k hk => ?_⟩, FrB_fr (Fr.ua (Fr.ua Fr.rf (by omega)) (by omega)), by rw [pn_ua_a _ _ _ (by omega), pn_ua_a _ _ _ (by omega)]⟩
    have hj : j < 12 := hj
    show pn_ua _ 90 _ 90 (317 * (12 - 1 - j) + k) = _
    rw [pn_ua_s, pn_ua_s, pn_ua_a _ _ _ (by omega)]
    unfold cpy csn
    by_cases j0 : j = 0
    · rw [if_pos (by omega), if_pos j0, show 317 * (12 - 1 - j) + k - 317 * (12 - 1) = k by omega]
    · rw [if_neg (by omega), if_neg j0, if_pos (by omega), ← h90 (j - 1) (by omega) k hk]
      show τ 90 (317 * (12 - 1 - j) + k - 0 + 317) = _
      congr 1
      omega
  · have e7 : (pn_up τ 85 7 (nI m + 1)) 85 7 = nI (m + 1) := by rw [pn_up_s, nI_1]
    rw [h7, if_neg (show ¬ nI m = 12 from fun z => q ((nI_eq (b := 12) (by omega) (by omega)).mp z)), r_rem55 (r := m + 1) (by omega) (by omega) e7]
    have hmn : mn12 m = m + 1 := by unfold mn12; rw [if_pos (by omega)]
    refine ⟨_, rfl, ⟨by rw [pn_ua_a _ _ _ (by omega), hmn]; exact e7, fun j hj k hk => ?_⟩, ⟨fun i q1 q2 q3 q4 q5 q6 q7 => by rw [pn_ua_a _ _ _ q4, pn_up_a _ _ _ _ q1], fun k q1 q2 => by rw [pn_ua_a _ _ _ (by omega), pn_up_k _ _ _ _ q1]⟩, by rw [pn_ua_a _ _ _ (by omega), pn_up_a _ _ _ _ (by omega)]⟩
    rw [hmn] at hj ⊢
    show pn_ua _ 90 _ 90 (317 * (m + 1 - 1 - j) + k) = _
    rw [pn_ua_s, pn_up_a _ _ _ _ (by omega), pn_up_a _ _ _ _ (by omega)]
    unfold cpy csn
    by_cases j0 : j = 0
    · rw [if_pos (by omega), if_pos j0, show 317 * (m + 1 - 1 - j) + k - 317 * (m + 1 - 1) = k by omega]
    · have lt : 317 * (m + 1 - 1 - j) + 317 ≤ 317 * (m + 1 - 1) := by omega
      rw [if_neg (by omega), if_neg j0, ← h90 (j - 1) (by omega) k hk]
      congr 1
      omega
theorem csn_g {m : Nat} {W : Nat → pn_V} {V : pn_V} {y : Int32} (h : GPa m W y) (hw : VW V) (hy : V 2 = y) : GPa (mn12 m) (csn V W) y := by
  intro j hj
  unfold csn
  by_cases j0 : j = 0
  · rw [if_pos j0]; exact ⟨hw, hy⟩
  · rw [if_neg j0]
    exact h (j - 1) (by unfold mn12 at hj; split at hj <;> omega)
/-- an act: both have remembered, and both have the village V' -/
theorem act_fin {σ σ1 τ2 : pn_S} {h : Bool} {Λ : pn_La} {V' : pn_V} {m x : Nat} {W : Nat → pn_V} {y : Int32} (hI : Inv σ h Λ) (fa : FrA σ σ1) (hv : CV σ1 5 V') (hw : VW V') (cp : CPa σ1 m x W) (fb : FrB (pn_up (pn_up σ1 96 0 y) 85 0 0) τ2) (e86 : τ2 86 = V') (kp : Kp V' (σ 86)) (rp : RPa τ2 m W) (gp : GPa m W (σ 86 2)) : τ2 85 0 = 0 ∧ τ2 96 0 = y ∧ Inv τ2 h Λ := by
  obtain ⟨i1, i2, i3, i4, i5, ⟨n, t1, t2, t3, t4⟩, i7, ⟨g1, g2, g3⟩, i9⟩ := hI
  have b : ∀ i, i < 85 → τ2 i = σ1 i := fun i hi => by rw [fb.1 i (by omega) (by omega) (by omega) (by omega) (by omega) (by omega) (by omega), pn_up_a _ _ _ _ (by omega), pn_up_a _ _ _ _ (by omega)]
  have b2 : ∀ i, i = 87 ∨ i = 91 → τ2 i = σ i := fun i hi => by rw [fb.1 i (by omega) (by omega) (by omega) (by omega) (by omega) (by omega) (by omega), pn_up_a _ _ _ _ (by omega), pn_up_a _ _ _ _ (by omega), fa.1 i (by omega) (by omega) (by omega) (by omega) (by omega) (by omega) (by omega) (by omega) (by omega) (by omega) (by omega) (by omega)]
  have b3 : ∀ k, k ≠ 0 → k ≠ 7 → k ≠ 20 → τ2 85 k = σ 85 k := fun k h0 h1 h2 => by rw [fb.2 k h1 h2, pn_up_k _ _ _ _ h0, pn_up_a _ _ _ _ (by omega), fa.1 85 (by omega) (by omega) (by omega) (by omega) (by omega) (by omega) (by omega) (by omega) (by omega) (by omega) (by omega) (by omega)]
  have a : ∀ i, (i < 5 ∨ (8 ≤ i ∧ i ≤ 13) ∨ (15 ≤ i ∧ i ≤ 18) ∨ (28 ≤ i ∧ i ≤ 32)) → τ2 i = σ i := fun i hi => by rw [b i (by omega), fa.1 i (by omega) (by omega) (by omega) (by omega) (by omega) (by omega) (by omega) (by omega) (by omega) (by omega) (by omega) (by omega)]
  refine ⟨by rw [fb.2 0 (by omega) (by omega), pn_up_s], by rw [fb.1 96 (by omega) (by omega) (by omega) (by omega) (by omega) (by omega) (by omega), pn_up_a _ _ _ _ (by omega), pn_up_s], ?_⟩
  have k2 : τ2 86 2 = σ 86 2 := by rw [e86]; exact kp 2 (by omega)
  unfold Inv
  rw [e86] at k2 ⊢
  refine ⟨cv_fr hv (b 5 (by omega)) (b 6 (by omega)) (b 7 (by omega)), hw, cl_fr i3 (by rw [b 14 (by omega)]; exact fa.2 6 (by omega) (by omega) (by omega)) (a 15 (by omega)) (a 16 (by omega)) (a 17 (by omega)) (a 18 (by omega)), rl_V i4 kp, i5, ⟨n, t1, by rw [a 1 (by omega)]; exact t2, by rw [b3 9 (by omega) (by omega) (by omega)]; exact t3, fun i hi => by rw [a 2 (by omega), b2 91 (by omega)]; exact t4 i hi⟩, ?_, ⟨by rw [a 0 (by omega), b3 6 (by omega) (by omega) (by omega)]; exact g1, by rw [b3 6 (by omega) (by omega) (by omega)]; exact g2, fun q => ?_⟩, by rw [a 0 (by omega), b3 14 (by omega) (by omega) (by omega)]; exact i9⟩
  · exact pst_of (cp_fr cp (b 41 (by omega)) fun i h1 h2 => b i (by omega)) rp (by rw [e86, k2]; exact gp)
  · rw [b3 6 (by omega) (by omega) (by omega)] at q
    obtain ⟨h', Λ', q1, q2, q3, q4, q5⟩ := g3 q
    rw [b2 87 (by omega)]
    exact ⟨h', Λ', cv_fr q1 (a 11 (by omega)) (a 12 (by omega)) (a 13 (by omega)), q2, cl_fr q3 (by rw [a 28 (by omega)]) (a 29 (by omega)) (a 30 (by omega)) (a 31 (by omega)) (a 32 (by omega)), q4, q5⟩
/-- both remember -/
theorem rem2 {σ : pn_S} {h : Bool} {Λ : pn_La} (hI : Inv σ h Λ) : ∃ σ' m x W, fX5_remember 5 σ = some σ' ∧ CV σ' 5 (σ 86) ∧ CPa σ' m x W ∧ GPa m W (σ 86 2) ∧ FrA σ σ' ∧ σ' 86 = σ 86 ∧ ∀ τ : pn_S, τ 85 7 = σ 85 7 → τ 90 = σ 90 → τ 86 = σ 86 → ∃ τ', fX11_remembers τ = some τ' ∧ RPa τ' m W ∧ FrB τ τ' ∧ τ' 86 = σ 86 := by
  obtain ⟨m, x, W, p1, p2, p3⟩ := pst_to hI.2.2.2.2.2.2.1
  obtain ⟨σ', g1, g2, g3, g4⟩ := c_rem hI.1 hI.2.1 p1
  refine ⟨σ', _, _, _, g1, g2, g3, csn_g p3 hI.2.1 rfl, g4, g4.1 86 (by omega) (by omega) (by omega) (by omega) (by omega) (by omega) (by omega) (by omega) (by omega) (by omega) (by omega) (by omega), fun τ e1 e2 e3 => ?_⟩
  obtain ⟨τ', k1, k2, k3, k4⟩ := r_rem (τ := τ) (m := m) (W := W) p1.1 ⟨by rw [e1]; exact p2.1, fun j hj k hk => by rw [e2]; exact p2.2 j hj k hk⟩
  rw [e3] at k2 k4
  exact ⟨τ', k1, k2, k3, k4⟩
