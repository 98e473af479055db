/-! PURE: a village. V is the village as the reference lays it out: 0 people 1 texts 3 night 4 wet 5 target 6 borne 7 rain 8 watch 9 fine 10 ale 11 rows 12 seed, 13 + 8 p + k trait k of p, 77 + 4 a + k the row a ago -/
abbrev pn_V : Type := Nat → Int32
def vn (V : pn_V) : Nat := (V 0).toNatClampNeg
def vl (V : pn_V) : Nat := (V 11).toNatClampNeg
def tr (V : pn_V) (p k : Nat) : Int32 := V (13 + 8 * p + k)
/-- what is always so of a village -/
def VW (V : pn_V) : Prop :=
  rg (V 0) 0 8 ∧ rg (V 1) 0 12 ∧ rg (V 3) 0 9999 ∧ rg (V 4) 0 1 ∧ rg (V 5) (-1) (vn V - 1) ∧ rg (V 6) 0 2 ∧ rg (V 7) 0 100 ∧ rg (V 8) 0 100 ∧ rg (V 9) 0 30 ∧ rg (V 10) 0 20 ∧ rg (V 11) 0 60 ∧
  ∀ p, p < vn V → rg (tr V p 0) 0 8 ∧ rg (tr V p 1) 0 9 ∧ rg (tr V p 2) 0 99 ∧ rg (tr V p 3) 0 9999 ∧ rg (tr V p 4) 0 9 ∧ rg (tr V p 5) (-1) (vn V - 1) ∧ rg (tr V p 6) 0 1 ∧ rg (tr V p 7) 0 1
/-- the class's village v is V -/
def CV (σ : pn_S) (v : Nat) (V : pn_V) : Prop :=
  (σ v 2 = V 0 ∧ σ v 3 = V 1 ∧ σ v 4 = V 5 ∧ σ v 5 = V 6 ∧ σ v 6 = V 3 ∧ σ v 7 = V 4 ∧ σ v 8 = V 7 ∧ σ v 9 = V 8 ∧ σ v 10 = V 9 ∧ σ v 11 = V 10 ∧ σ v 12 = V 12 ∧ σ v 13 = V 11) ∧
  (∀ k, k < 8 * vn V → σ (v + 1) k = V (13 + k)) ∧ ∃ x, x < 60 ∧ σ v 14 = nI x ∧ ∀ a, a < vl V → ∀ k, k < 4 → σ (v + 2) (4 * ((x + 59 - a) % 60) + k) = V (77 + 4 * a + k)
theorem VW.n {V : pn_V} (h : VW V) : V 0 = nI (vn V) ∧ vn V ≤ 8 := by
  have := rg_nI h.1
  have h2 := h.1.2
  refine ⟨this.1, ?_⟩
  unfold vn
  omega
theorem VW.l {V : pn_V} (h : VW V) : V 11 = nI (vl V) ∧ vl V ≤ 60 := by
  have h1 := h.2.2.2.2.2.2.2.2.2.2.1
  have := rg_nI h1
  have h2 := h1.2
  refine ⟨this.1, ?_⟩
  unfold vl
  omega
theorem VW.p {V : pn_V} (h : VW V) {p : Nat} (hp : p < vn V) : rg (tr V p 0) 0 8 ∧ rg (tr V p 1) 0 9 ∧ rg (tr V p 2) 0 99 ∧ rg (tr V p 3) 0 9999 ∧ rg (tr V p 4) 0 9 ∧ rg (tr V p 5) (-1) (vn V - 1) ∧ rg (tr V p 6) 0 1 ∧ rg (tr V p 7) 0 1 := h.2.2.2.2.2.2.2.2.2.2.2 p hp
/-- a is one of the people -/
def isP (V : pn_V) (a : Int32) : Prop := 0 ≤ a.toInt ∧ a.toInt < vn V
theorem isP.nat {V : pn_V} {a : Int32} (h : isP V a) : ∃ p, p < vn V ∧ a = nI p := by
  have h1 : rg a 0 (vn V) := ⟨h.1, by have := h.2; omega⟩
  have := rg_nI h1
  exact ⟨a.toNatClampNeg, by have := h.2; omega, this.1⟩
theorem isP_nI {V : pn_V} (hw : VW V) {p : Nat} (h : p < vn V) : isP V (nI p) := by
  have := hw.n.2
  unfold isP
  rw [nI_toInt (by omega)]
  omega
theorem isP_dec (V : pn_V) (a : Int32) : isP V a ∨ ¬ isP V a := Classical.em _
theorem cv_idx {p k : Nat} (hp : p < 8) (hk : k < 8) : nI p * 8 + nI k = nI (8 * p + k) := by
  rw [q_lit 8, pk_mul, nI_add, Nat.mul_comm]
theorem c_has {σ : pn_S} {v : Nat} {V : pn_V} (h : CV σ v V) (hw : VW V) (a : Int32) : (isP V a → fX8_has v a σ = some 1) ∧ (¬ isP V a → fX8_has v a σ = some 0) := by
  have hn := hw.n
  have e : σ v 2 = nI (vn V) := by rw [h.1.1, hn.1]
  have e2 : (nI (vn V)).toInt = vn V := nI_toInt (by omega)
  unfold fX8_has isP
  rw [e]
  refine ⟨fun hp => ?_, fun hp => ?_⟩
  · rw [if_neg (by rw [q_lt]; exact Int.not_lt.mpr hp.1), if_neg (by rw [q_le, e2]; omega)]
  · by_cases h0 : a < 0
    · rw [if_pos h0]
    · rw [if_neg h0, if_pos]
      rw [q_lt] at h0
      rw [q_le, e2]
      have : (0 : Int32).toInt = 0 := rfl
      omega
theorem c_of {σ : pn_S} {v : Nat} {V : pn_V} (h : CV σ v V) (hw : VW V) {p k : Nat} (hp : p < vn V) (hk : k < 8) : fX8_of v (nI p) (nI k) σ = some (tr V p k) := by
  have hn := hw.n
  have e : σ v 2 = nI (vn V) := by rw [h.1.1, hn.1]
  unfold fX8_of
  rw [e, if_neg (nI_pos (by omega)), if_neg (nI_ge hp (by omega)), if_neg (nI_pos (by omega)), if_pos (show nI k < 8 from nI_lt (b := 8) hk (by omega)), cv_idx (by omega) hk, q_ib (by omega) (by omega), if_pos rfl, nI_clamp (by omega), h.2.1 _ (by omega)]
  unfold tr
  rw [Nat.add_assoc]
theorem cv_up {σ : pn_S} {v : Nat} {V : pn_V} (h : CV σ v V) {p k : Nat} (hp : p < vn V) (hk : k < 8) (hn : vn V ≤ 8) (hl : vl V ≤ 60) (x : Int32) : CV (pn_up σ (v + 1) (8 * p + k) x) v (upd V (13 + 8 * p + k) x) := by
  obtain ⟨h1, h2, x0, hx0, h3, h4⟩ := h
  have hv : ∀ j, j < 13 → upd V (13 + 8 * p + k) x j = V j := fun j hj => by unfold upd; rw [if_neg (by omega)]
  have evn : vn (upd V (13 + 8 * p + k) x) = vn V := by unfold vn; rw [hv 0 (by omega)]
  have evl : vl (upd V (13 + 8 * p + k) x) = vl V := by unfold vl; rw [hv 11 (by omega)]
  have hs : ∀ j, pn_up σ (v + 1) (8 * p + k) x v j = σ v j := fun j => by rw [pn_up_a _ _ _ _ (by omega)]
  refine ⟨?_, ?_, x0, hx0, by rw [hs]; exact h3, ?_⟩
  · simp only [hs, hv 0 (by omega), hv 1 (by omega), hv 3 (by omega), hv 4 (by omega), hv 5 (by omega), hv 6 (by omega), hv 7 (by omega), hv 8 (by omega), hv 9 (by omega), hv 10 (by omega), hv 11 (by omega), hv 12 (by omega)]
    exact h1
  · intro j hj
    rw [evn] at hj
    by_cases e : j = 8 * p + k
    · subst e
      rw [pn_up_s]
      unfold upd
      rw [if_pos (by omega)]
    · rw [pn_up_k _ _ _ _ e]
      unfold upd
      rw [if_neg (by omega)]
      exact h2 j hj
  · intro a ha j hj
    rw [evl] at ha
    rw [pn_up_a _ _ _ _ (by omega)]
    unfold upd
    rw [if_neg (by omega)]
    exact h4 a ha j hj
theorem c_tell {σ : pn_S} {v : Nat} {V : pn_V} (h : CV σ v V) (hw : VW V) {p k : Nat} (hp : p < vn V) (hk : k < 8) (x : Int32) : fX8_tell v (nI p) (nI k) x σ = some (tr V p k, pn_up σ (v + 1) (8 * p + k) x) ∧ CV (pn_up σ (v + 1) (8 * p + k) x) v (upd V (13 + 8 * p + k) x) := by
  have hn := hw.n
  refine ⟨?_, cv_up h hp hk hn.2 hw.l.2 x⟩
  have e : σ v 2 = nI (vn V) := by rw [h.1.1, hn.1]
  unfold fX8_tell
  rw [e, if_neg (nI_pos (by omega)), if_neg (nI_ge hp (by omega)), if_neg (nI_pos (by omega)), if_pos (show nI k < 8 from nI_lt (b := 8) hk (by omega)), cv_idx (by omega) hk, q_ib (by omega) (by omega), if_pos rfl, if_pos rfl, nI_clamp (by omega), h.2.1 _ (by omega)]
  unfold tr
  rw [Nat.add_assoc]
/-- the beginners, as bits -/
def vbeg (V : pn_V) : Int32 := fo (fun p acc => acc ||| (tr V p 7 <<< (nI p &&& 31))) 0 (vn V) 0
theorem c_beg_loop {σ : pn_S} {v : Nat} {V : pn_V} (h : CV σ v V) (hw : VW V) : ∀ (k fuel p : Nat) (acc : Int32), p + k = vn V → k < fuel → fX8_beginners_4 v fuel acc (nI p) σ = some (fo (fun p acc => acc ||| (tr V p 7 <<< (nI p &&& 31))) p k acc) := by
  have hn := hw.n
  have e : σ v 2 = nI (vn V) := by rw [h.1.1, hn.1]
  intro k
  induction k with
  | zero =>
    intro fuel p acc hp hf
    match fuel, hf with
    | f + 1, _ => rw [fX8_beginners_4, e, if_pos (nI_le (by omega) (by omega))]; rfl
  | succ k ih =>
    intro fuel p acc hp hf
    match fuel, hf with
    | f + 1, hf =>
      rw [fX8_beginners_4, e, if_neg (nI_ge (by omega) (by omega)), q_lit 7, c_of h hw (by omega) (by omega)]
      show fX8_beginners_4 v f _ _ σ = _
      rw [nI_1, ih f (p + 1) _ (by omega) (by omega)]
      rfl
theorem c_beg {σ : pn_S} {v : Nat} {V : pn_V} (h : CV σ v V) (hw : VW V) : fX8_beginners v σ = some (vbeg V) := by
  have := hw.n.2
  exact c_beg_loop h hw (vn V) 5000 0 0 (by omega) (by omega)
def vpur (V : pn_V) : Int32 := fo (fun p acc => acc + tr V p 3) 0 (vn V) 0
theorem c_pur_loop {σ : pn_S} {v : Nat} {V : pn_V} (h : CV σ v V) (hw : VW V) : ∀ (k fuel p : Nat) (acc : Int32), p + k = vn V → k < fuel → fX8_purses_4 v fuel acc (nI p) σ = some (fo (fun p acc => acc + tr V p 3) p k acc) := by
  have hn := hw.n
  have e : σ v 2 = nI (vn V) := by rw [h.1.1, hn.1]
  intro k
  induction k with
  | zero =>
    intro fuel p acc hp hf
    match fuel, hf with
    | f + 1, _ => rw [fX8_purses_4, e, if_pos (nI_le (by omega) (by omega))]; rfl
  | succ k ih =>
    intro fuel p acc hp hf
    match fuel, hf with
    | f + 1, hf =>
      rw [fX8_purses_4, e, if_neg (nI_ge (by omega) (by omega)), q_lit 3, c_of h hw (by omega) (by omega)]
      show fX8_purses_4 v f _ _ σ = _
      rw [nI_1, ih f (p + 1) _ (by omega) (by omega)]
      rfl
theorem c_pur {σ : pn_S} {v : Nat} {V : pn_V} (h : CV σ v V) (hw : VW V) : fX8_purses v σ = some (vpur V) := by
  have := hw.n.2
  exact c_pur_loop h hw (vn V) 5000 0 0 (by omega) (by omega)
