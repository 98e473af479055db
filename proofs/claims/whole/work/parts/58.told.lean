/-! PURE: what was heard: pairs on the tape -/
/-- what the invariant looks at but for the tape -/
def CorT (σ σ' : pn_S) : Prop := (∀ i, ((5 ≤ i ∧ i ≤ 7) ∨ (11 ≤ i ∧ i ≤ 13) ∨ (15 ≤ i ∧ i ≤ 18) ∨ (29 ≤ i ∧ i ≤ 32) ∨ (43 ≤ i ∧ i ≤ 78) ∨ i = 86 ∨ i = 87 ∨ i = 90) → σ' i = σ i) ∧ σ' 0 14 = σ 0 14 ∧ σ' 0 15 = σ 0 15 ∧ σ' 14 6 = σ 14 6 ∧ σ' 28 6 = σ 28 6 ∧ σ' 41 1 = σ 41 1 ∧ σ' 41 2 = σ 41 2 ∧ σ' 85 6 = σ 85 6 ∧ σ' 85 7 = σ 85 7 ∧ σ' 85 14 = σ 85 14
theorem CorT.tr {a b c : pn_S} (h : CorT a b) (h2 : CorT b c) : CorT a c := by
  obtain ⟨r, a1, a2, a4, a5, a6, a7, a8, a9, a11⟩ := h
  obtain ⟨s, b1, b2, b4, b5, b6, b7, b8, b9, b11⟩ := h2
  exact ⟨fun i hi => (s i hi).trans (r i hi), b1.trans a1, b2.trans a2, b4.trans a4, b5.trans a5, b6.trans a6, b7.trans a7, b8.trans a8, b9.trans a9, b11.trans a11⟩
theorem Core.T {a b : pn_S} (h : Core a b) : CorT a b := by
  obtain ⟨r, a1, a2, a3, a4, a5, a6, a7, a8, a9, a10, a11⟩ := h
  exact ⟨fun i hi => r i (by omega), a1, a2, a4, a5, a6, a7, a8, a9, a11⟩
theorem inv_T {σ σ' : pn_S} {h : Bool} {Λ : pn_La} (hI : Inv σ h Λ) (hc : CorT σ σ') (ht : Tap σ') : Inv σ' h Λ := by
  obtain ⟨i1, i2, i3, i4, i5, i6, ⟨m, x, p1, p2, p3, p4, p5, p6⟩, ⟨g1, g2, g3⟩, i9⟩ := hI
  obtain ⟨r, a1, a2, a4, a5, a6, a7, a8, a9, a11⟩ := hc
  have e86 : σ' 86 = σ 86 := r 86 (by omega)
  have e87 : σ' 87 = σ 87 := r 87 (by omega)
  have e90 : σ' 90 = σ 90 := r 90 (by omega)
  have ev : ∀ j, vsl σ' j = vsl σ j := fun j => by unfold vsl; rw [e90]
  unfold Inv
  rw [e86]
  refine ⟨cv_fr i1 (r 5 (by omega)) (r 6 (by omega)) (r 7 (by omega)), i2, cl_fr i3 a4 (r 15 (by omega)) (r 16 (by omega)) (r 17 (by omega)) (r 18 (by omega)), i4, i5, ht, ⟨m, x, p1, p2, a6.trans p3, a7.trans p4, a9.trans p5, fun j hj => ?_⟩, ⟨a1.trans (g1.trans a8.symm), by rw [a8]; exact g2, fun q => ?_⟩, a2.trans (i9.trans a11.symm)⟩
  · rw [ev, e86]
    obtain ⟨q1, q2, q3⟩ := p6 j hj
    exact ⟨cv_fr q1 (r _ (by omega)) (r _ (by omega)) (r _ (by omega)), q2, q3⟩
  · rw [a8] at q
    obtain ⟨h', Λ', q1, q2, q3, q4, q5⟩ := g3 q
    rw [e87]
    exact ⟨h', Λ', cv_fr q1 (r 11 (by omega)) (r 12 (by omega)) (r 13 (by omega)), q2, cl_fr q3 a5 (r 29 (by omega)) (r 30 (by omega)) (r 31 (by omega)) (r 32 (by omega)), q4, q5⟩
/-- a byte with its sign, and without -/
theorem b255 {w : Int32} (h : rg w (-128) 127) : (0 ≤ w.toInt → w &&& 255 = w) ∧ (w.toInt < 0 → 128 ≤ (w &&& 255).toInt) := by
  have h1 := h.1
  have h2 := h.2
  refine ⟨fun q => ?_, fun q => ?_⟩
  · obtain ⟨k, hk, rfl⟩ := rg_k (a := w) (n := 128) q (by omega)
    exact (by decide +kernel : ∀ k, k < 128 → nI k &&& 255 = nI k) k hk
  · have e : ∃ k, k < 129 ∧ w = 0 - nI k := by
      refine ⟨(-w.toInt).toNat, by omega, ?_⟩
      rw [q_eq, q_sub (by rw [nI_toInt (by omega)]; show -2147483648 ≤ (0 : Int) - _; omega) (by rw [nI_toInt (by omega)]; show (0 : Int) - _ < _; omega), nI_toInt (by omega)]
      show _ = (0 : Int) - _
      omega
    obtain ⟨k, hk, rfl⟩ := e
    have := (by decide +kernel : ∀ k, k < 129 → k = 0 ∨ 128 ≤ ((0 - nI k) &&& 255 : Int32).toInt) k hk
    rcases this with z | z
    · subst z
      exact absurd q (by decide)
    · exact z
def pB (V : pn_V) (x : Int32) : Bool := decide (0 ≤ x.toInt ∧ x.toInt < vn V)
theorem pB_isP {V : pn_V} {x : Int32} : pB V x = true ↔ isP V x := by unfold pB isP; exact decide_eq_true_iff
theorem pB_255 {V : pn_V} (hn : vn V ≤ 8) {w : Int32} (h : rg w (-128) 127) : pB V (w &&& 255) = pB V w ∧ (pB V w = true → w &&& 255 = w) := by
  obtain ⟨a, b⟩ := b255 h
  unfold pB
  by_cases q : 0 ≤ w.toInt
  · rw [a q]; exact ⟨rfl, fun _ => rfl⟩
  · have := b (by omega)
    refine ⟨?_, fun z => absurd (of_decide_eq_true z).1 q⟩
    rw [decide_eq_false (by omega), decide_eq_false (by omega)]
def okB (V : pn_V) (w : Nat → Int32) (t : Int32) (j : Nat) : Bool := pB V (w (2 * j)) && (pB V (w (2 * j + 1)) && (!decide (w (2 * j) = t) && (!decide (w (2 * j + 1) = t) && !decide (w (2 * j) = w (2 * j + 1)))))
def allB (ok : Nat → Bool) : Nat → Nat → Bool
  | _, 0 => true
  | j, k + 1 => ok j && allB ok (j + 1) k
theorem allB_at {ok : Nat → Bool} : ∀ k j, allB ok j k = true → ∀ i, j ≤ i → i < j + k → ok i = true := by
  intro k
  induction k with
  | zero => intro j _ i h1 h2; omega
  | succ k ih =>
    intro j h i h1 h2
    rw [allB, Bool.and_eq_true] at h
    by_cases q : i = j
    · rw [q]; exact h.1
    · exact ih (j + 1) h.2 i (by omega) (by omega)
theorem allB_c {ok ok' : Nat → Bool} : ∀ k j, (∀ i, j ≤ i → i < j + k → ok i = ok' i) → allB ok j k = allB ok' j k := by
  intro k
  induction k with
  | zero => intro j _; rfl
  | succ k ih => intro j h; rw [allB, allB, h j (by omega) (by omega), ih (j + 1) fun i h1 h2 => h i (by omega) (by omega)]
theorem c_byte {σ : pn_S} {n i : Nat} (hn : n ≤ 400) (h4 : σ 1 4 = nI n) (hi : i < n) : fX7_byteAt (nI i) σ = some (σ 2 i) := by
  unfold fX7_byteAt
  rw [if_neg (nI_pos (by omega)), h4, if_neg (nI_ge (by omega) (by omega)), if_neg (show ¬ (400 : Int32) ≤ nI i from nI_ge (b := 400) (by omega) (by omega)), q_ib (by omega) (by omega), if_pos rfl, nI_clamp (by omega)]
theorem c_has' {σ : pn_S} {V : pn_V} (h : CV σ 5 V) (hw : VW V) (x : Int32) : fX8_has 5 x σ = some (b01 (pB V x)) := by
  obtain ⟨a, b⟩ := c_has h hw x
  cases q : pB V x with
  | true => exact a (pB_isP.mp q)
  | false => exact b fun z => by rw [pB_isP.mpr z] at q; cases q
theorem r_nob' {τ : pn_S} {V : pn_V} (e : τ 86 = V) (hw : VW V) (x : Int32) : fX11_nobody x τ = some (b01 (!pB V x)) := by
  subst e
  obtain ⟨a, b⟩ := r_nob hw x
  cases q : pB (τ 86) x with
  | true => exact a (pB_isP.mp q)
  | false => exact b fun z => by rw [pB_isP.mpr z] at q; cases q
theorem c_pairs {σ : pn_S} {V : pn_V} {w : Nat → Int32} {m : Nat} {t : Int32} (h : CV σ 5 V) (hw : VW V) (hm : m ≤ 20) (h4 : σ 1 4 = nI (2 * m)) (hb : ∀ i, i < 2 * m → σ 2 i = w i &&& 255 ∧ rg (w i) (-128) 127) : ∀ (k j f : Nat), j + k = m → k < f → fX10_arePairs_28 f t (nI (2 * j)) σ = some (b01 (allB (okB V w t) j k)) := by
  have hn := hw.n.2
  intro k
  induction k with
  | zero =>
    intro j f hj hf
    match f, hf with
    | f + 1, _ => rw [fX10_arePairs_28, h4, nI_1, if_pos (nI_le (by omega) (by omega))]; rfl
  | succ k ih =>
    intro j f hj hf
    match f, hf with
    | f + 1, hf =>
      obtain ⟨x1, x2⟩ := hb (2 * j) (by omega)
      obtain ⟨y1, y2⟩ := hb (2 * j + 1) (by omega)
      obtain ⟨p1, p2⟩ := pB_255 (V := V) hn x2
      obtain ⟨q1, q2⟩ := pB_255 (V := V) hn y2
      have e2 : nI (2 * j) + 2 = nI (2 * (j + 1)) := by rw [q_lit 2, nI_add, show 2 * j + 2 = 2 * (j + 1) by omega]
      rw [fX10_arePairs_28, h4, nI_1, if_neg (nI_ge (by omega) (by omega)), c_byte (n := 2 * m) (by omega) h4 (by omega), Option.bind_some, c_byte (n := 2 * m) (by omega) h4 (by omega), Option.bind_some, c_has' h hw, Option.bind_some, c_has' h hw, Option.bind_some, x1, y1, p1, q1, allB, e2]
      unfold okB
      cases z1 : pB V (w (2 * j)) with
      | false => rw [if_pos (show b01 false = 0 from rfl)]; rfl
      | true =>
        rw [if_neg (show ¬ b01 true = 0 by decide)]
        cases z2 : pB V (w (2 * j + 1)) with
        | false => rw [if_pos (show b01 false = 0 from rfl)]; rfl
        | true =>
          rw [if_neg (show ¬ b01 true = 0 by decide), p2 z1, q2 z2]
          by_cases z3 : w (2 * j) = t
          · rw [if_pos z3, decide_eq_true z3]; rfl
          · rw [if_neg z3, decide_eq_false z3]
            by_cases z4 : w (2 * j + 1) = t
            · rw [if_pos z4, decide_eq_true z4]; rfl
            · rw [if_neg z4, decide_eq_false z4]
              by_cases z5 : w (2 * j) = w (2 * j + 1)
              · rw [if_pos z5, decide_eq_true z5]; rfl
              · rw [if_neg z5, decide_eq_false z5, ih (j + 1) f (by omega) (by omega)]; rfl
theorem r_pairs {τ : pn_S} {V : pn_V} {m : Nat} {t : Int32} (e : τ 86 = V) (hw : VW V) (hm : m ≤ 20) (h11 : τ 85 11 = nI (2 * m)) : ∀ (k j f : Nat), j + k = m → k + 1 < f → fX11_isTold_26 f t 1 (nI (2 * j)) τ = some (b01 (allB (okB V (τ 91) t) j k)) := by
  have hn := hw.n.2
  have zero : ∀ f x, fX11_isTold_26 (f + 1) t 0 x τ = some 0 := fun f x => by
    rw [fX11_isTold_26]
    by_cases z : τ 85 11 ≤ x
    · rw [if_pos z, if_pos (by decide)]
    · rw [if_neg z, if_pos rfl, if_pos (by decide)]
  intro k
  induction k with
  | zero =>
    intro j f hj hf
    match f, hf with
    | f + 1, _ => rw [fX11_isTold_26, h11, if_pos (nI_le (by omega) (by omega)), if_pos (by decide)]; rfl
  | succ k ih =>
    intro j f hj hf
    match f, hf with
    | f + 1 + 1, hf =>
      have e2 : nI (2 * j) + 2 = nI (2 * (j + 1)) := by rw [q_lit 2, nI_add, show 2 * j + 2 = 2 * (j + 1) by omega]
      rw [fX11_isTold_26, h11, if_neg (nI_ge (by omega) (by omega)), if_neg (by decide), q_ib (by omega) (by omega), if_pos rfl, nI_1, q_ib (by omega) (by omega), if_pos rfl, nI_clamp (by omega), nI_clamp (by omega), r_nob' e hw, Option.bind_some, r_nob' e hw, Option.bind_some, if_pos rfl, if_pos rfl, if_pos rfl, if_pos rfl, allB, e2, zero]
      unfold okB
      cases z1 : pB V (τ 91 (2 * j)) with
      | false => rw [if_neg (show ¬ b01 (!false) = 0 by decide)]; rfl
      | true =>
        rw [if_pos (show b01 (!true) = 0 from rfl)]
        cases z2 : pB V (τ 91 (2 * j + 1)) with
        | false => rw [if_neg (show ¬ b01 (!false) = 0 by decide)]; rfl
        | true =>
          rw [if_pos (show b01 (!true) = 0 from rfl)]
          by_cases z3 : τ 91 (2 * j) = t
          · rw [if_pos z3, decide_eq_true z3]; rfl
          · rw [if_neg z3, decide_eq_false z3]
            by_cases z4 : τ 91 (2 * j + 1) = t
            · rw [if_pos z4, decide_eq_true z4]; rfl
            · rw [if_neg z4, decide_eq_false z4]
              by_cases z5 : τ 91 (2 * j) = τ 91 (2 * j + 1)
              · rw [if_pos z5, decide_eq_true z5]; rfl
              · rw [if_neg z5, decide_eq_false z5, ih (j + 1) (f + 1) (by omega) (by omega)]; rfl
/-- what is told fits: few enough, in pairs, each pair right -/
def tol (V : pn_V) (w : Nat → Int32) (t : Int32) (n : Nat) : Bool := decide (n % 2 = 0 ∧ n ≤ 40) && allB (okB V w t) 0 (n / 2)
theorem par {n : Nat} (hn : n ≤ 400) : nI n - nI n / 2 * 2 = nI (n % 2) := (by decide +kernel : ∀ n, n < 401 → nI n - nI n / 2 * 2 = nI (n % 2)) n (by omega)
theorem c_told {σ : pn_S} {V : pn_V} {w : Nat → Int32} {n : Nat} {t : Int32} (h : CV σ 5 V) (hw : VW V) (hn : n ≤ 400) (h4 : σ 1 4 = nI n) (hb : ∀ i, i < n → σ 2 i = w i &&& 255 ∧ rg (w i) (-128) 127) : fX10_arePairs t σ = some (b01 (tol V w t n)) := by
  have e40 : (40 : Int32).toInt = 40 := rfl
  have en : (nI n).toInt = n := nI_toInt (by omega)
  unfold fX10_arePairs tol
  rw [h4, par hn]
  by_cases q : n ≤ 40
  · rw [if_neg (by rw [q_lt]; omega)]
    by_cases q2 : n % 2 = 0
    · obtain ⟨m, hm⟩ : ∃ m, n = 2 * m := ⟨n / 2, by omega⟩
      subst hm
      rw [q2, if_pos (show nI 0 = 0 from rfl), decide_eq_true (show 0 = 0 ∧ 2 * m ≤ 40 from ⟨rfl, q⟩), Bool.true_and, show 2 * m / 2 = m by omega]
      exact c_pairs h hw (by omega) h4 hb m 0 5000 (by omega) (by omega)
    · rw [show n % 2 = 1 by omega, if_neg (by decide), decide_eq_false (by omega), Bool.false_and]
      rfl
  · rw [if_pos (by rw [q_lt]; omega), decide_eq_false (by omega), Bool.false_and]
    rfl
theorem r_told {τ : pn_S} {V : pn_V} {n : Nat} {t : Int32} (e : τ 86 = V) (hw : VW V) (hn : n ≤ 400) (h11 : τ 85 11 = nI n) : fX11_isTold t τ = some (b01 (tol V (τ 91) t n)) := by
  have e40 : (40 : Int32).toInt = 40 := rfl
  have en : (nI n).toInt = n := nI_toInt (by omega)
  have zero : ∀ f x, fX11_isTold_26 (f + 1) t 0 x τ = some 0 := fun f x => by
    rw [fX11_isTold_26]
    by_cases z : τ 85 11 ≤ x
    · rw [if_pos z, if_pos (by decide)]
    · rw [if_neg z, if_pos rfl, if_pos (by decide)]
  unfold fX11_isTold tol
  rw [h11, par hn]
  by_cases q2 : n % 2 = 0
  · rw [q2, if_pos (show nI 0 = 0 from rfl)]
    by_cases q : n ≤ 40
    · obtain ⟨m, hm⟩ : ∃ m, n = 2 * m := ⟨n / 2, by omega⟩
      subst hm
      rw [if_neg (by rw [q_lt]; omega), decide_eq_true (show 0 = 0 ∧ 2 * m ≤ 40 from ⟨rfl, q⟩), Bool.true_and, show 2 * m / 2 = m by omega]
      exact r_pairs e hw (by omega) h11 m 0 5000 (by omega) (by omega)
    · rw [if_pos (by rw [q_lt]; omega), zero 4999, decide_eq_false (by omega), Bool.false_and]
      rfl
  · rw [show n % 2 = 1 by omega, if_neg (by decide), zero 4999, decide_eq_false (by omega), Bool.false_and]
    rfl
