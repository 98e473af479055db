/-! PURE: what always holds of the two between calls -/
def vsl (σ : pn_S) (j : Nat) : pn_V := fun k => σ 90 (317 * j + k)
def Tap (σ : pn_S) : Prop := ∃ n, n ≤ 400 ∧ σ 1 3 = nI n ∧ σ 85 9 = nI n ∧ ∀ i, i < n → σ 2 i = σ 91 i &&& 255 ∧ rg (σ 91 i) (-128) 127
def Pst (σ : pn_S) : Prop := ∃ m x, m ≤ 12 ∧ x < 12 ∧ σ 41 1 = nI m ∧ σ 41 2 = nI x ∧ σ 85 7 = nI m ∧ ∀ j, j < m → CV σ (43 + 3 * ((x + 11 - j) % 12)) (vsl σ (m - 1 - j)) ∧ VW (vsl σ (m - 1 - j)) ∧ vsl σ (m - 1 - j) 2 = σ 86 2
def Img (σ : pn_S) : Prop := σ 0 14 = σ 85 6 ∧ (σ 85 6 = 0 ∨ σ 85 6 = 1) ∧ (σ 85 6 = 1 → ∃ h Λ, CV σ 11 (σ 87) ∧ VW (σ 87) ∧ CL σ 28 h Λ ∧ RLa (σ 87) h Λ ∧ LW Λ)
def Inv (σ : pn_S) (h : Bool) (Λ : pn_La) : Prop := CV σ 5 (σ 86) ∧ VW (σ 86) ∧ CL σ 14 h Λ ∧ RLa (σ 86) h Λ ∧ LW Λ ∧ Tap σ ∧ Pst σ ∧ Img σ ∧ σ 0 15 = σ 85 14
/-- what the invariant looks at is the same -/
def Core (σ σ' : pn_S) : Prop := (∀ i, (i = 2 ∨ (5 ≤ i ∧ i ≤ 7) ∨ (11 ≤ i ∧ i ≤ 13) ∨ (15 ≤ i ∧ i ≤ 18) ∨ (29 ≤ i ∧ i ≤ 32) ∨ (43 ≤ i ∧ i ≤ 78) ∨ i = 86 ∨ i = 87 ∨ i = 90 ∨ i = 91) → σ' i = σ i) ∧ σ' 0 14 = σ 0 14 ∧ σ' 0 15 = σ 0 15 ∧ σ' 1 3 = σ 1 3 ∧ σ' 14 6 = σ 14 6 ∧ σ' 28 6 = σ 28 6 ∧ σ' 41 1 = σ 41 1 ∧ σ' 41 2 = σ 41 2 ∧ σ' 85 6 = σ 85 6 ∧ σ' 85 7 = σ 85 7 ∧ σ' 85 9 = σ 85 9 ∧ σ' 85 14 = σ 85 14
theorem Core.tr {a b c : pn_S} (h : Core a b) (h2 : Core b c) : Core a c := by
  obtain ⟨r, a1, a2, a3, a4, a5, a6, a7, a8, a9, a10, a11⟩ := h
  obtain ⟨s, b1, b2, b3, b4, b5, b6, b7, b8, b9, b10, b11⟩ := h2
  exact ⟨fun i hi => (s i hi).trans (r i hi), b1.trans a1, b2.trans a2, b3.trans a3, b4.trans a4, b5.trans a5, b6.trans a6, b7.trans a7, b8.trans a8, b9.trans a9, b10.trans a10, b11.trans a11⟩
theorem Core_C {a b : pn_S} (h : FrC a b) : Core a b := by
  have e : ∀ i, i ≠ 14 → i ≠ 19 → i ≠ 20 → i ≠ 37 → i ≠ 38 → i ≠ 39 → i ≠ 40 → b i = a i := h.1
  refine ⟨fun i hi => e i (by omega) (by omega) (by omega) (by omega) (by omega) (by omega) (by omega), ?_, ?_, ?_, h.2 6 (by omega) (by omega) (by omega), ?_, ?_, ?_, ?_, ?_, ?_, ?_⟩ <;> rw [e _ (by omega) (by omega) (by omega) (by omega) (by omega) (by omega) (by omega)]
theorem Core_R {a b : pn_S} (h : FrR a b) : Core a b := by
  have e : ∀ i, i ≠ 85 → i ≠ 93 → i ≠ 94 → i ≠ 95 → b i = a i := h.1
  refine ⟨fun i hi => e i (by omega) (by omega) (by omega) (by omega), ?_, ?_, ?_, ?_, ?_, ?_, ?_, h.2 6 (by omega), h.2 7 (by omega), h.2 9 (by omega), h.2 14 (by omega)⟩ <;> rw [e _ (by omega) (by omega) (by omega) (by omega)]
theorem Core_thrown {a : pn_S} {x : Int32} : Core a (pn_up a 85 0 x) :=
  ⟨fun i hi => pn_up_a _ _ _ _ (by omega), rfl, rfl, rfl, rfl, rfl, rfl, rfl, rfl, rfl, rfl, rfl⟩
theorem Core_96 {a : pn_S} {x : Int32} : Core a (pn_up a 96 0 x) :=
  ⟨fun i hi => pn_up_a _ _ _ _ (by omega), rfl, rfl, rfl, rfl, rfl, rfl, rfl, rfl, rfl, rfl, rfl⟩
theorem Inv.core {σ σ' : pn_S} {h : Bool} {Λ : pn_La} (hI : Inv σ h Λ) (hc : Core σ σ') : Inv σ' h Λ := by
  obtain ⟨i1, i2, i3, i4, i5, ⟨n, t1, t2, t3, t4⟩, ⟨m, x, p1, p2, p3, p4, p5, p6⟩, ⟨g1, g2, g3⟩, i9⟩ := hI
  obtain ⟨r, a1, a2, a3, a4, a5, a6, a7, a8, a9, a10, a11⟩ := hc
  have e86 : σ' 86 = σ 86 := r 86 (by omega)
  have e87 : σ' 87 = σ 87 := r 87 (by omega)
  have e90 : σ' 90 = σ 90 := r 90 (by omega)
  have ev : ∀ j, vsl σ' j = vsl σ j := fun j => by unfold vsl; rw [e90]
  unfold Inv
  rw [e86]
  refine ⟨cv_fr i1 (r 5 (by omega)) (r 6 (by omega)) (r 7 (by omega)), i2, cl_fr i3 a4 (r 15 (by omega)) (r 16 (by omega)) (r 17 (by omega)) (r 18 (by omega)), i4, i5, ⟨n, t1, a3.trans t2, a10.trans t3, fun i hi => by rw [r 2 (by omega), r 91 (by omega)]; exact t4 i hi⟩, ⟨m, x, p1, p2, a6.trans p3, a7.trans p4, a9.trans p5, fun j hj => ?_⟩, ⟨a1.trans (g1.trans a8.symm), by rw [a8]; exact g2, fun q => ?_⟩, a2.trans (i9.trans a11.symm)⟩
  · rw [ev, e86]
    obtain ⟨q1, q2, q3⟩ := p6 j hj
    exact ⟨cv_fr q1 (r _ (by omega)) (r _ (by omega)) (r _ (by omega)), q2, q3⟩
  · rw [a8] at q
    obtain ⟨h', Λ', q1, q2, q3, q4, q5⟩ := g3 q
    rw [e87]
    exact ⟨h', Λ', cv_fr q1 (r 11 (by omega)) (r 12 (by omega)) (r 13 (by omega)), q2, cl_fr q3 a5 (r 29 (by omega)) (r 30 (by omega)) (r 31 (by omega)) (r 32 (by omega)), q4, q5⟩
