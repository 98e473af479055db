/-! PURE: sets that fit what was heard -/
theorem gat_ge {nd : Nat → Int32} {cand : Int32} : ∀ (k r : Nat) (th : Int32) (rd : Nat → Int32) (la : Int32), r + k < 1000 → (∀ p, -1 ≤ (rd p).toInt) → ∀ p, -1 ≤ ((gat nd cand k r th rd la).2.1 p).toInt := by
  intro k
  induction k with
  | zero => intro r th rd la _ h p; exact h p
  | succ k ih =>
    intro r th rd la hr h p
    rw [gat]
    split
    · exact h p
    · refine ih (r + 1) _ _ _ (by omega) (fun q => ?_) p
      show -1 ≤ (if _ then nI r else rd q).toInt
      split
      · rw [nI_toInt (by omega)]; omega
      · exact h q
theorem crowd_ge {V : pn_V} {Λ : pn_La} {t : Nat} {beg home : Int32} (p : Nat) : -1 ≤ ((crowd V Λ t beg home).2.1 p).toInt := by
  unfold crowd crw
  refine gat_ge 8 1 _ _ _ (by omega) (fun q => ?_) p
  show -1 ≤ (if _ then (0 : Int32) else -1).toInt
  split <;> decide
/-- the pair j was heard in this order -/
def prB (rd : Nat → Int32) (w : Nat → Int32) (j : Nat) : Bool := !decide (rd (w (2 * j)).toNatClampNeg = -1) && decide (rd (w (2 * j)).toNatClampNeg < rd (w (2 * j + 1)).toNatClampNeg)
def fit (V : pn_V) (Λ : pn_La) (t : Nat) (w : Nat → Int32) (m k : Nat) : Bool := !bt (nI k) t && allB (prB (crowd V Λ t (nI k) 0).2.1 w) 0 m
def okA (V : pn_V) (w : Nat → Int32) (m : Nat) : Prop := ∀ j, j < 2 * m → ∃ p, p < vn V ∧ w j = nI p
theorem okA_of {V : pn_V} {w : Nat → Int32} {t : Int32} {m : Nat} (h : allB (okB V w t) 0 m = true) : okA V w m := by
  intro j hj
  have := allB_at m 0 h (j / 2) (by omega) (by omega)
  unfold okB at this
  rw [Bool.and_eq_true, Bool.and_eq_true] at this
  by_cases q : j % 2 = 0
  · have e : 2 * (j / 2) = j := by omega
    rw [e] at this
    exact (pB_isP.mp this.1).nat
  · have e : 2 * (j / 2) + 1 = j := by omega
    rw [e] at this
    exact (pB_isP.mp this.2.1).nat
theorem c_fitl {σ : pn_S} {V : pn_V} {w rd : Nat → Int32} {m : Nat} (hn : vn V ≤ 8) (hm : m ≤ 20) (h4 : σ 1 4 = nI (2 * m)) (hb : ∀ i, i < 2 * m → σ 2 i = w i &&& 255 ∧ rg (w i) (-128) 127) (ho : okA V w m) (hr : ∀ p, p < 8 → σ 40 p = rd p) (hg : ∀ p, -1 ≤ (rd p).toInt) : ∀ (k j f : Nat), j + k = m → k < f → fX10_fitsPairs_11 f (nI (2 * j)) σ = some (b01 (allB (prB rd w) j k), σ) := by
  intro k
  induction k with
  | zero =>
    intro j f hj hf
    match f, hf with
    | f + 1, _ => rw [fX10_fitsPairs_11, h4, nI_1, if_pos (nI_le (by omega) (by omega))]; rfl
  | succ k ih =>
    intro j f hj hf
    match f, hf with
    | f + 1, hf =>
      obtain ⟨p, hp, ep⟩ := ho (2 * j) (by omega)
      obtain ⟨q, hq, eq⟩ := ho (2 * j + 1) (by omega)
      have x1 : σ 2 (2 * j) = nI p := by
        obtain ⟨a, b⟩ := hb (2 * j) (by omega)
        rw [a, (b255 b).1 (by rw [ep, nI_toInt (by omega)]; omega), ep]
      have y1 : σ 2 (2 * j + 1) = nI q := by
        obtain ⟨a, b⟩ := hb (2 * j + 1) (by omega)
        rw [a, (b255 b).1 (by rw [eq, nI_toInt (by omega)]; omega), eq]
      have e2 : nI (2 * j) + 2 = nI (2 * (j + 1)) := by rw [q_lit 2, nI_add, show 2 * j + 2 = 2 * (j + 1) by omega]
      have em1 : (-1 : Int32).toInt = -1 := rfl
      rw [fX10_fitsPairs_11, h4, nI_1, if_neg (nI_ge (by omega) (by omega)), c_byte (n := 2 * m) (by omega) h4 (by omega), Option.bind_some, x1, c_round (by omega), Option.bind_some, c_byte (n := 2 * m) (by omega) h4 (by omega), Option.bind_some, y1, c_round (by omega), Option.bind_some, hr p (by omega), hr q (by omega), allB, e2]
      unfold prB
      rw [ep, eq, nI_clamp (by omega), nI_clamp (by omega)]
      by_cases z1 : rd p = -1
      · rw [if_pos z1, decide_eq_true z1]; rfl
      · rw [if_neg z1, decide_eq_false z1]
        by_cases z3 : rd p < rd q
        · have z2 : ¬ rd q = -1 := fun z => by
            have := hg p
            rw [q_lt, z, em1] at z3
            omega
          rw [if_neg z2, if_pos z3, decide_eq_true z3, ih (j + 1) f (by omega) (by omega)]
          rfl
        · rw [if_neg z3, decide_eq_false z3]
          split <;> rfl
theorem r_fitl {τ : pn_S} {V : pn_V} {rd : Nat → Int32} {m : Nat} (hn : vn V ≤ 8) (hm : m ≤ 20) (h11 : τ 85 11 = nI (2 * m)) (ho : okA V (τ 91) m) (hr : ∀ p, p < vn V → τ 95 p = rd p) : ∀ (k j f : Nat), j + k = m → k < f → fX11_fits_23 f 1 (nI (2 * j)) τ = some (b01 (allB (prB rd (τ 91)) j k), τ) := by
  have zero : ∀ (k j f : Nat), j + k = m → k < f → fX11_fits_23 f 0 (nI (2 * j)) τ = some (0, τ) := by
    intro k
    induction k with
    | zero =>
      intro j f hj hf
      match f, hf with
      | f + 1, _ => rw [fX11_fits_23, h11, if_pos (nI_le (by omega) (by omega)), if_pos (by decide)]
    | succ k ih =>
      intro j f hj hf
      match f, hf with
      | f + 1, hf =>
        have e2 : nI (2 * j) + 2 = nI (2 * (j + 1)) := by rw [q_lit 2, nI_add, show 2 * j + 2 = 2 * (j + 1) by omega]
        rw [fX11_fits_23, h11, if_neg (nI_ge (by omega) (by omega)), if_pos rfl, e2, ih (j + 1) f (by omega) (by omega)]
  intro k
  induction k with
  | zero =>
    intro j f hj hf
    match f, hf with
    | f + 1, _ => rw [fX11_fits_23, h11, if_pos (nI_le (by omega) (by omega)), if_pos (by decide)]; rfl
  | succ k ih =>
    intro j f hj hf
    match f, hf with
    | f + 1, hf =>
      obtain ⟨p, hp, ep⟩ := ho (2 * j) (by omega)
      obtain ⟨q, hq, eq⟩ := ho (2 * j + 1) (by omega)
      have e2 : nI (2 * j) + 2 = nI (2 * (j + 1)) := by rw [q_lit 2, nI_add, show 2 * j + 2 = 2 * (j + 1) by omega]
      rw [fX11_fits_23, h11, if_neg (nI_ge (by omega) (by omega)), if_neg (by decide), q_ib (by omega) (by omega), if_pos rfl, nI_1, q_ib (by omega) (by omega), if_pos rfl, nI_clamp (by omega), nI_clamp (by omega), ep, eq, q_ib (by omega) (by omega), if_pos rfl, q_ib (by omega) (by omega), if_pos rfl, if_pos rfl, if_pos rfl, nI_clamp (by omega), nI_clamp (by omega), hr p hp, hr q hq, allB, e2, zero k (j + 1) f (by omega) (by omega)]
      unfold prB
      rw [ep, eq, nI_clamp (by omega), nI_clamp (by omega)]
      by_cases z1 : rd p = -1
      · rw [if_pos z1, decide_eq_true z1]; rfl
      · rw [if_neg z1, decide_eq_false z1]
        by_cases z3 : rd p < rd q
        · rw [if_neg (by rw [q_lt] at z3; rw [q_le]; omega), decide_eq_true z3, ih (j + 1) f (by omega) (by omega)]
          rfl
        · rw [if_pos (by rw [q_lt] at z3; rw [q_le]; omega), decide_eq_false z3]
          rfl
theorem prB_c {V : pn_V} {rd rd' w : Nat → Int32} {m : Nat} (hn : vn V ≤ 8) (ho : okA V w m) (h : ∀ p, p < vn V → rd p = rd' p) : allB (prB rd w) 0 m = allB (prB rd' w) 0 m :=
  allB_c m 0 fun i _ hi => by
    obtain ⟨p, hp, ep⟩ := ho (2 * i) (by omega)
    obtain ⟨q, hq, eq⟩ := ho (2 * i + 1) (by omega)
    unfold prB
    rw [ep, eq, nI_clamp (by omega), nI_clamp (by omega), h p hp, h q hq]
/-! counting -/
def cnt (P : Nat → Bool) (m : Nat) : Nat := smN (fun k => if P k = true then 1 else 0) m
theorem cnt_s (P : Nat → Bool) (m : Nat) : cnt P (m + 1) = cnt P m + (if P m = true then 1 else 0) := smN_s _ _
theorem cnt_le (P Q : Nat → Bool) : ∀ m, cnt (fun k => P k && Q k) m ≤ cnt P m := by
  intro m
  induction m with
  | zero => exact Nat.le_refl _
  | succ m ih =>
    rw [cnt_s, cnt_s]
    cases hp : P m <;> cases hq : Q m <;> simp [hp, hq] <;> omega
theorem cnt_m (P : Nat → Bool) : ∀ m, cnt P m ≤ m := by
  intro m
  induction m with
  | zero => exact Nat.le_refl _
  | succ m ih => rw [cnt_s]; split <;> omega
theorem cnt_0 {P : Nat → Bool} : ∀ m, (∀ k, k < m → P k = false) → cnt P m = 0 := by
  intro m
  induction m with
  | zero => intro _; rfl
  | succ m ih => intro h; rw [cnt_s, ih fun k hk => h k (by omega), h m (by omega)]; rfl
theorem cnt_c {P Q : Nat → Bool} {m : Nat} (h : ∀ k, k < m → P k = Q k) : cnt P m = cnt Q m := smN_c fun k hk => by rw [h k hk]
/-- the class's sets, behind those below k -/
def SeT (F : Nat → Bool) (σ : pn_S) (k : Nat) : Prop := σ 79 1 = nI (cnt F k) ∧ (∀ p, p < 8 → σ 80 p = nI (cnt (fun j => F j && bt (nI j) p) k)) ∧ ∀ i, i < 32 → bt (σ 79 2) i = decide (0 < cnt F k ∧ cnt (fun j => F j && bt (nI j) i) k = cnt F k)
theorem c_add {F : Nat → Bool} {σ : pn_S} {k : Nat} (hk : k < 256) (h : SeT F σ k) (hF : F k = true) : ∃ σ', fX6_add (nI k) σ = some σ' ∧ SeT F σ' (k + 1) ∧ Fr (fun i => i = 79 ∨ i = 80) σ σ' := by
  obtain ⟨h1, h2, h3⟩ := h
  have hc := cnt_m F k
  have key : fX6_add (nI k) σ = fX6_add_33 5000 (nI k) 0 (pn_up (pn_up σ 79 2 (if cnt F k = 0 then nI k else σ 79 2 &&& nI k)) 79 1 (nI (cnt F k + 1))) := by
    unfold fX6_add fX6_add_18
    rw [h1]
    by_cases q : cnt F k = 0
    · rw [if_pos (show nI (cnt F k) = 0 by rw [q]; rfl), if_pos q, pn_up_k _ _ _ _ (by omega), h1, nI_1]
    · rw [if_neg (show ¬ nI (cnt F k) = 0 from fun z => q ((nI_eq (b := 0) (by omega) (by omega)).mp z)), if_neg q, pn_up_k _ _ _ _ (by omega), h1, nI_1]
  generalize hA : pn_up (pn_up σ 79 2 (if cnt F k = 0 then nI k else σ 79 2 &&& nI k)) 79 1 (nI (cnt F k + 1)) = A at key
  have a80 : A 80 = σ 80 := by rw [← hA, pn_up_a _ _ _ _ (by omega), pn_up_a _ _ _ _ (by omega)]
  have fA : Fr (fun i => i = 79 ∨ i = 80) σ A := by rw [← hA]; exact (Fr.rf.up (by omega)).up (by omega)
  obtain ⟨s, g1, g2, g3⟩ := lpE (n := 8) (F := fun f p s => fX6_add_33 f (nI k) (nI p) s) (out := fun s => some s) (fun p s => (∀ q, q < 8 → s 80 q = if q < p then nI (cnt (fun j => F j && bt (nI j) q) (k + 1)) else nI (cnt (fun j => F j && bt (nI j) q) k)) ∧ Fr (fun i => i = 80) A s)
    (fun f s _ => by rw [fX6_add_33, if_pos (show (8 : Int32) ≤ nI 8 by decide)])
    (fun f p s hp hs => by
      have es : s 80 p = nI (cnt (fun j => F j && bt (nI j) p) k) := by rw [hs.1 p hp, if_neg (by omega)]
      refine ⟨pn_up s 80 p (nI (cnt (fun j => F j && bt (nI j) p) (k + 1))), ?_, fun q hq => ?_, hs.2.up rfl⟩
      · rw [fX6_add_33, if_neg (show ¬ (8 : Int32) ≤ nI p from nI_ge (b := 8) hp (by omega)), q_ib (by omega) (by omega), if_pos rfl, c_hasBit (by omega), Option.bind_some]
        unfold fX6_add_59
        rw [q_ib (by omega) (by omega), if_pos rfl, if_pos rfl, nI_clamp (by omega), nI_1, es, cnt_s, hF, Bool.true_and]
        by_cases q : bt (nI k) p = true
        · rw [if_pos q, if_pos q, if_neg (by decide), nI_1]
        · rw [if_neg q, if_neg q, if_pos rfl, Int32.add_zero]; rfl
      · by_cases e : q = p
        · rw [e, pn_up_s, if_pos (by omega)]
        · rw [pn_up_k _ _ _ _ e, hs.1 q hq]
          by_cases e2 : q < p
          · rw [if_pos e2, if_pos (by omega)]
          · rw [if_neg e2, if_neg (by omega)]) 8 0 5000 A (by omega) (by omega) ⟨fun q hq => by rw [if_neg (by omega), a80]; exact h2 q hq, Fr.rf⟩
  refine ⟨s, key.trans g1, ⟨?_, fun p hp => by rw [g2 p hp, if_pos hp], fun i hi => ?_⟩, fA.tr (g3.mono fun i hi => by omega)⟩
  · rw [g3 79 (by omega), ← hA, pn_up_s, cnt_s, hF, if_pos rfl]
  · rw [g3 79 (by omega), ← hA, pn_up_k _ _ _ _ (by omega), pn_up_s, cnt_s, hF, if_pos rfl, cnt_s, hF, Bool.true_and]
    have le := cnt_le F (fun j => bt (nI j) i) k
    by_cases q : cnt F k = 0
    · rw [if_pos q, q]
      have z : cnt (fun j => F j && bt (nI j) i) k = 0 := by omega
      rw [z]
      cases bt (nI k) i <;> rfl
    · rw [if_neg q, b_and, h3 i hi]
      cases hb : bt (nI k) i with
      | false =>
        rw [Bool.and_false, if_neg (by decide), decide_eq_false (by omega)]
      | true =>
        rw [Bool.and_true, if_pos rfl]
        by_cases q2 : cnt (fun j => F j && bt (nI j) i) k = cnt F k
        · rw [decide_eq_true (by omega), decide_eq_true (by omega)]
        · rw [decide_eq_false (by omega), decide_eq_false (by omega)]
theorem SeT_no {F : Nat → Bool} {σ σ' : pn_S} {k : Nat} (h : SeT F σ k) (hF : F k = false) (h79 : σ' 79 = σ 79) (h80 : σ' 80 = σ 80) : SeT F σ' (k + 1) := by
  obtain ⟨h1, h2, h3⟩ := h
  unfold SeT
  rw [h79, h80]
  have c : cnt F (k + 1) = cnt F k := by rw [cnt_s, hF]; rfl
  have c2 : ∀ p, cnt (fun j => F j && bt (nI j) p) (k + 1) = cnt (fun j => F j && bt (nI j) p) k := fun p => by rw [cnt_s, hF]; rfl
  refine ⟨by rw [c]; exact h1, fun p hp => by rw [c2]; exact h2 p hp, fun i hi => by rw [c, c2]; exact h3 i hi⟩
/-- the class's scratch here -/
def FrS9 (σ σ' : pn_S) : Prop := (∀ i, i ≠ 14 → i ≠ 19 → i ≠ 20 → i ≠ 37 → i ≠ 38 → i ≠ 39 → i ≠ 40 → i ≠ 79 → i ≠ 80 → σ' i = σ i) ∧ ∀ k, k ≠ 8 → k ≠ 9 → k ≠ 10 → σ' 14 k = σ 14 k
theorem FrS9.tr {a b c : pn_S} (h : FrS9 a b) (h2 : FrS9 b c) : FrS9 a c := ⟨fun i q1 q2 q3 q4 q5 q6 q7 q8 q9 => (h2.1 i q1 q2 q3 q4 q5 q6 q7 q8 q9).trans (h.1 i q1 q2 q3 q4 q5 q6 q7 q8 q9), fun k q1 q2 q3 => (h2.2 k q1 q2 q3).trans (h.2 k q1 q2 q3)⟩
theorem FrS9.rf {σ : pn_S} : FrS9 σ σ := ⟨fun _ _ _ _ _ _ _ _ _ _ => rfl, fun _ _ _ _ => rfl⟩
theorem FrS9_C {a b : pn_S} (h : FrC a b) : FrS9 a b := ⟨fun i q1 q2 q3 q4 q5 q6 q7 _ _ => h.1 i q1 q2 q3 q4 q5 q6 q7, h.2⟩
theorem FrS9_S {a b : pn_S} (h : Fr (fun i => i = 79 ∨ i = 80) a b) : FrS9 a b := ⟨fun i _ _ _ _ _ _ _ q8 q9 => h i (by omega), fun k _ _ _ => by rw [h 14 (by omega)]⟩
theorem c_find {σ : pn_S} {V : pn_V} {Λ : pn_La} {w : Nat → Int32} {t m : Nat} (hn : vn V ≤ 8) (ht : t < vn V) (hI : INv σ V Λ t) (hm : m ≤ 20) (h4 : σ 1 4 = nI (2 * m)) (hb : ∀ i, i < 2 * m → σ 2 i = w i &&& 255 ∧ rg (w i) (-128) 127) (ho : okA V w m) (h0 : SeT (fit V Λ t w m) σ 0) : ∃ σ', fX10_findSets_61 5000 (σ 37 3) 0 σ = some (.inl (), σ') ∧ SeT (fit V Λ t w m) σ' (2 ^ vn V) ∧ INv σ' V Λ t ∧ FrS9 σ σ' := by
  obtain ⟨o1, o2⟩ := oth_f (vn V) (by omega) t ht
  obtain ⟨w1, w2⟩ := pow_le8 hn
  have e3 : σ 37 3 = nI (oth (vn V) t) := hI.1.trans o1
  obtain ⟨s, g1, g2, g3, g4⟩ := lpE (n := oth (vn V) t + 1) (F := fun f k s => fX10_findSets_61 f (nI (oth (vn V) t)) (nI k) s) (out := fun s => some (.inl (), s)) (fun k s => SeT (fit V Λ t w m) s k ∧ INv s V Λ t ∧ FrS9 σ s)
    (fun f s _ => by rw [fX10_findSets_61, if_pos (nI_lt (by omega) (by omega))])
    (fun f k s hk hs => by
      obtain ⟨h1, h2, h3⟩ := hs
      have pf := (part_f (vn V) (by omega) t ht k (by omega)).1
      rw [fX10_findSets_61, if_neg (nlt_nI (by omega) (by omega)), nI_1]
      unfold fX10_isPart
      by_cases hbt : bt (nI k) t = false
      · rw [if_pos (pf.mpr hbt), Option.bind_some, if_neg (by decide)]
        obtain ⟨σ9, k1, k2, k3, k4⟩ := c_gather2 hn ht h2 (nI k) 0
        have f9 := h3.tr (FrS9_C k4)
        have e1 : σ9 1 = σ 1 := f9.1 1 (by omega) (by omega) (by omega) (by omega) (by omega) (by omega) (by omega) (by omega) (by omega)
        have e2 : σ9 2 = σ 2 := f9.1 2 (by omega) (by omega) (by omega) (by omega) (by omega) (by omega) (by omega) (by omega) (by omega)
        have fl := c_fitl (σ := σ9) (V := V) (w := w) (rd := (crowd V Λ t (nI k) 0).2.1) (m := m) hn hm (by rw [e1]; exact h4) (fun i hi => by rw [e2]; exact hb i hi) ho k2.2.2.2.2 (fun p => crowd_ge p) m 0 5000 (by omega) (by omega)
        have fe : fX10_fitsPairs (nI k) s = some (b01 (fit V Λ t w m k), σ9) := by
          unfold fX10_fitsPairs fit
          rw [k1, Option.bind_some, hbt]
          exact fl
        have h79 : σ9 79 = s 79 := k4.1 79 (by omega) (by omega) (by omega) (by omega) (by omega) (by omega) (by omega)
        have h80 : σ9 80 = s 80 := k4.1 80 (by omega) (by omega) (by omega) (by omega) (by omega) (by omega) (by omega)
        rw [fe, bi_some]
        cases hf : fit V Λ t w m k with
        | false => exact ⟨σ9, by rw [if_pos (show b01 false = 0 from rfl)], SeT_no h1 hf h79 h80, k3, f9⟩
        | true =>
          have h19 : SeT (fit V Λ t w m) σ9 k := by unfold SeT; rw [h79, h80]; exact h1
          obtain ⟨σa, l1, l2, l3⟩ := c_add (by omega) h19 hf
          refine ⟨σa, by rw [if_neg (show ¬ b01 true = 0 by decide), l1, Option.bind_some], l2, ?_, f9.tr (FrS9_S l3)⟩
          unfold INv
          rw [l3 37 (by omega), l3 38 (by omega), l3 39 (by omega)]
          exact k3
      · have hf : fit V Λ t w m k = false := by
          unfold fit
          have : bt (nI k) t = true := by simpa using hbt
          rw [this]
          rfl
        rw [if_neg (fun z => hbt (pf.mp z)), Option.bind_some, if_pos rfl]
        exact ⟨s, rfl, SeT_no h1 hf rfl rfl, h2, h3⟩) (oth (vn V) t + 1) 0 5000 σ (by omega) (by omega) ⟨h0, hI, FrS9.rf⟩
  refine ⟨s, by rw [e3]; exact g1, ?_, g3, g4⟩
  have no : ∀ k, oth (vn V) t < k → k < 2 ^ vn V → fit V Λ t w m k = false := fun k q1 q2 => by
    unfold fit
    rw [(part_f (vn V) (by omega) t ht k q2).2 q1]
    rfl
  have ce : ∀ P : Nat → Bool, (∀ k, fit V Λ t w m k = false → P k = false) → cnt P (2 ^ vn V) = cnt P (oth (vn V) t + 1) := fun P hP => by
    obtain ⟨d, hd⟩ : ∃ d, 2 ^ vn V = oth (vn V) t + 1 + d := ⟨2 ^ vn V - (oth (vn V) t + 1), by omega⟩
    have : ∀ e, e ≤ d → cnt P (oth (vn V) t + 1 + e) = cnt P (oth (vn V) t + 1) := by
      intro e
      induction e with
      | zero => intro _; rfl
      | succ e ih =>
        intro he
        rw [← Nat.add_assoc, cnt_s, ih (by omega), hP _ (no _ (by omega) (by omega))]
        rfl
    rw [hd]
    exact this d (Nat.le_refl _)
  obtain ⟨h1, h2, h3⟩ := g2
  have c0 := ce (fit V Λ t w m) fun k h => h
  have c1 : ∀ p, cnt (fun j => fit V Λ t w m j && bt (nI j) p) (2 ^ vn V) = cnt (fun j => fit V Λ t w m j && bt (nI j) p) (oth (vn V) t + 1) := fun p => ce _ fun k h => by rw [h]; rfl
  exact ⟨by rw [c0]; exact h1, fun p hp => by rw [c1]; exact h2 p hp, fun i hi => by rw [c0, c1]; exact h3 i hi⟩
