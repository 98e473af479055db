/-! PURE: choices that rest -/
def thr (V : pn_V) (c : Int32) : Int32 := fo (fun p acc => acc + (if bt c p = true then tr V p 1 else 0)) 0 (vn V) 0
theorem c_thr {σ : pn_S} {V : pn_V} {c : Int32} (h : CV σ 5 V) (hw : VW V) (hc : σ 37 4 = c) : fX10_thirstOf σ = some (thr V c) := by
  have hn := hw.n
  have e : σ 5 2 = nI (vn V) := by rw [h.1.1, hn.1]
  obtain ⟨s, g1, g2⟩ := lpE (n := vn V) (F := fun f p acc => fX10_thirstOf_4 f acc (nI p) σ) (out := fun s => some s) (fun p s => s = fo (fun p acc => acc + (if bt c p = true then tr V p 1 else 0)) 0 p 0)
    (fun f s _ => by rw [fX10_thirstOf_4, e, if_pos (nI_le (by omega) (by omega))])
    (fun f p s hp hs => by
      have g : fX8_of 5 (nI p) 1 σ = some (tr V p 1) := c_of h hw hp (k := 1) (by omega)
      refine ⟨_, ?_, by rw [fo_s, ← hs]⟩
      rw [fX10_thirstOf_4, e, if_neg (nI_ge (by omega) (by omega)), hc, c_hasBit (by omega), Option.bind_some, g, Option.bind_some, nI_1]
      by_cases q : bt c p = true
      · rw [if_pos q, if_pos q, if_neg (by decide)]
      · rw [if_neg q, if_neg q, if_pos rfl]) (vn V) 0 5000 0 (by omega) (by omega) rfl
  unfold fX10_thirstOf
  refine g1.trans ?_
  rw [g2]
  rfl
theorem r_thr {σ : pn_S} {h : Bool} {Λ : pn_La} {V : pn_V} (hI : Inv σ h Λ) (he : σ 86 = V) (c : Int32) : fX11_thirstOf c σ = some (thr V c) := by
  have hn : vn V ≤ 8 := by rw [← he]; exact hI.2.1.n.2
  obtain ⟨s, g1, g2⟩ := lpE (n := vn V) (F := fun f p acc => fX11_thirstOf_4 f c acc (nI p) σ) (out := fun s => some s) (fun p s => s = fo (fun p acc => acc + (if bt c p = true then tr V p 1 else 0)) 0 p 0)
    (fun f s _ => by rw [fX11_thirstOf_4, rpe hI he, Option.bind_some, if_pos (nI_le (by omega) (by omega))])
    (fun f p s hp hs => by
      have g : fX11_of (nI p) 1 σ = some (tr V p 1) := rof hI he hp (k := 1) (by omega)
      refine ⟨_, ?_, by rw [fo_s, ← hs]⟩
      rw [fX11_thirstOf_4, rpe hI he, Option.bind_some, if_neg (nI_ge (by omega) (by omega)), r_has (by omega), Option.bind_some, g, Option.bind_some, nI_1]
      by_cases q : bt c p = true
      · rw [if_pos q, if_pos q, if_neg (by decide)]
      · rw [if_neg q, if_neg q, if_pos rfl]) (vn V) 0 5000 0 (by omega) (by omega) rfl
  unfold fX11_thirstOf
  refine g1.trans ?_
  rw [g2]
  rfl
def losF (P N W : Int32) (c : Nat) : Int32 := if c = 0 then P else if c = 1 then 1 else if c = 2 then N else if c = 3 then 0 else if c = 4 then W else 0
def gaiF (T N : Int32) (c : Nat) : Int32 := if c = 0 then T else if c = 1 then 0 else if c = 2 then N else if c = 3 then 0 else if c = 4 then -1 else 0
def cx (c : Nat) : Nat := if c % 2 = 0 then c + 1 else c - 1
def mn3 (a b c : Int32) : Int32 := if c < (if b < a then b else a) then c else (if b < a then b else a)
def rstS (l g : Nat → Int32) (c : Nat) (acc : Int32) : Int32 := if l c = mn3 (l (c % 2)) (l (2 + c % 2)) (l (4 + c % 2)) ∧ ¬ g c < g (cx c) then acc ||| bs c else acc
theorem c_pt {a b c : Nat} (hab : 2 * a + b = c) (hc : c < 6) (x y : Int32) (σ : pn_S) : fX1_put (nI a) (nI b) x y σ = some (pn_up (pn_up σ 82 c x) 83 c y) := by
  have e : (2 : Int32) * nI a + nI b = nI c := by rw [q_lit 2, pk_mul, nI_add, hab]
  unfold fX1_put
  rw [e, if_neg (nI_pos (by omega)), if_neg (show ¬ (6 : Int32) ≤ nI c from nI_ge (b := 6) hc (by omega)), q_ib (by omega) (by omega), if_pos rfl, if_pos rfl, nI_clamp (by omega)]
theorem c_least (σ : pn_S) {s : Nat} (hs : s < 2) : fX1_leastLoss (nI s) σ = some (mn3 (σ 82 s) (σ 82 (2 + s)) (σ 82 (4 + s))) := by
  have e1 : nI s &&& 1 = nI s := (by decide : ∀ s, s < 2 → nI s &&& 1 = nI s) s hs
  have e2 : (2 : Int32) * 1 + nI s = nI (2 + s) := by rw [q_lit 2, q_lit 1, pk_mul, nI_add]
  have e3 : (2 : Int32) * (1 + 1) + nI s = nI (4 + s) := by rw [show (2 : Int32) * (1 + 1) = nI 4 from rfl, nI_add]
  unfold fX1_leastLoss
  rw [e1, q_ib (by omega) (by omega), if_pos rfl, nI_clamp (by omega), fX1_leastLoss_11, if_neg (by decide), e1, e2, q_ib (by omega) (by omega), if_pos rfl, nI_clamp (by omega), jmin, Option.bind_some, fX1_leastLoss_11, if_neg (by decide), e1, e3, q_ib (by omega) (by omega), if_pos rfl, nI_clamp (by omega), jmin, Option.bind_some, fX1_leastLoss_11, if_pos (by decide)]
  rfl
theorem c_rest (σ : pn_S) {l g : Nat → Int32} (hl : ∀ c, c < 6 → σ 82 c = l c) (hg : ∀ c, c < 6 → σ 83 c = g c) : fX1_restingCells σ = some (fo (rstS l g) 0 6 0) := by
  obtain ⟨s, g1, g2⟩ := lpE (n := 6) (F := fun f c acc => fX1_restingCells_4 f acc (nI c) σ) (out := fun s => some s) (fun c s => s = fo (rstS l g) 0 c 0)
    (fun f s _ => by rw [fX1_restingCells_4, if_pos (show (6 : Int32) ≤ nI 6 by decide)])
    (fun f c s hc hs => by
      refine ⟨_, ?_, by rw [fo_s, ← hs]⟩
      have e1 : nI c - nI c / 2 * 2 = nI (c % 2) := (by decide : ∀ c, c < 6 → nI c - nI c / 2 * 2 = nI (c % 2)) c hc
      have e2 : nI c ^^^ 1 = nI (cx c) := (by decide : ∀ c, c < 6 → nI c ^^^ 1 = nI (cx c)) c hc
      have e3 : cx c < 6 := (by decide : ∀ c, c < 6 → cx c < 6) c hc
      rw [fX1_restingCells_4, if_neg (show ¬ (6 : Int32) ≤ nI c from nI_ge (b := 6) hc (by omega)), q_ib (by omega) (by omega), if_pos rfl, e1, c_least σ (by omega), Option.bind_some, nI_clamp (by omega), if_pos rfl, e2, q_ib (by omega) (by omega), if_pos rfl, nI_clamp (by omega), hl c hc, hl _ (by omega), hl _ (by omega), hl _ (by omega), hg c hc, hg _ e3, nI_1]
      unfold rstS
      by_cases q : l c = mn3 (l (c % 2)) (l (2 + c % 2)) (l (4 + c % 2))
      · rw [if_pos q]
        by_cases q2 : g c < g (cx c)
        · rw [if_pos q2, if_neg (fun z => z.2 q2)]
        · rw [if_neg q2, if_pos ⟨q, q2⟩]
          rfl
      · rw [if_neg q, if_neg (fun z => q z.1)]) 6 0 5000 0 (by omega) (by omega) rfl
  unfold fX1_restingCells
  refine g1.trans ?_
  rw [g2]
theorem neg_lt {x y : Int32} (hx : 0 ≤ x.toInt) (hy : 0 ≤ y.toInt) : -x < -y ↔ y < x := by
  have h1 := (q_rng x).2
  have h2 := (q_rng y).2
  have e0 : (0 : Int32).toInt = 0 := rfl
  have ex : (-x).toInt = - x.toInt := by
    rw [show -x = 0 - x by grind, q_sub (by omega) (by omega)]
    omega
  have ey : (-y).toInt = - y.toInt := by
    rw [show -y = 0 - y by grind, q_sub (by omega) (by omega)]
    omega
  rw [q_lt, q_lt, ex, ey]
  omega
theorem mn3_iff {x a b c : Int32} (hx : x = a ∨ x = b ∨ x = c) : x = mn3 a b c ↔ (¬ a < x ∧ ¬ b < x ∧ ¬ c < x) := by
  unfold mn3
  constructor
  · intro e
    rw [q_lt, q_lt, q_lt]
    by_cases h1 : b < a
    · rw [if_pos h1] at e
      by_cases h2 : c < b
      · rw [if_pos h2] at e; rw [q_lt] at h1 h2; rw [e]; omega
      · rw [if_neg h2] at e; rw [q_lt] at h1 h2; rw [e]; omega
    · rw [if_neg h1] at e
      by_cases h2 : c < a
      · rw [if_pos h2] at e; rw [q_lt] at h1 h2; rw [e]; omega
      · rw [if_neg h2] at e; rw [q_lt] at h1 h2; rw [e]; omega
  · rintro ⟨n1, n2, n3⟩
    rw [q_lt] at n1 n2 n3
    by_cases h1 : b < a
    · rw [if_pos h1]
      by_cases h2 : c < b
      · rw [if_pos h2]; rw [q_lt] at h1 h2; rw [q_eq]
        rcases hx with rfl | rfl | rfl <;> omega
      · rw [if_neg h2]; rw [q_lt] at h1 h2; rw [q_eq]
        rcases hx with rfl | rfl | rfl <;> omega
    · rw [if_neg h1]
      by_cases h2 : c < a
      · rw [if_pos h2]; rw [q_lt] at h1 h2; rw [q_eq]
        rcases hx with rfl | rfl | rfl <;> omega
      · rw [if_neg h2]; rw [q_lt] at h1 h2; rw [q_eq]
        rcases hx with rfl | rfl | rfl <;> omega
section
variable {h : Bool} {Λ : pn_La} {V : pn_V} {t : Nat}
/-- what one has, and the village -/
def lsV (V : pn_V) (Λ : pn_La) (t : Nat) : Nat → Int32 := losF (V 10 * nI (pc (cr0 V Λ t))) (nz (pans V Λ t) (cr0 V Λ t)) (tr V t 4)
def gnV (V : pn_V) (Λ : pn_La) (t : Nat) : Nat → Int32 := gaiF (thr V (cr0 V Λ t)) (nz (pans V Λ t) (cr0 V Λ t))
theorem ls_pos (hw : VW V) (hL : LW Λ) (ht : t < vn V) (c : Nat) : 0 ≤ (lsV V Λ t c).toInt := by
  have a := (price_rg hw (cr0 V Λ t)).2.1
  have b := (noise_rg (V := V) hL t (cr0 V Λ t)).1
  have d := (hw.p ht).2.2.2.2.1.1
  unfold lsV losF
  repeat' split
  all_goals first | assumption | (show (0 : Int) ≤ _; decide)
theorem r_loud {τ : pn_S} (hI : Inv τ h Λ) (e : τ 86 = V) (ht : t < vn V) : ∃ σ', fX11_loudTo (nI t) τ = some (nz (pans V Λ t) (cr0 V Λ t), σ') ∧ FrR τ σ' := by
  have hn : vn V ≤ 8 := by rw [← e]; exact hI.2.1.n.2
  obtain ⟨σ2, k1, k2, k3, k4, k5, k6, k7⟩ := rc hI e ht
  obtain ⟨σ3, m1, m2, m3, m4⟩ := rnz k7 k6 ht (cr_out (Λ := Λ) (t := t) (beg := vbeg V) (home := 0) hn (by omega))
  exact ⟨σ3, by unfold fX11_loudTo; rw [k1, bi_some, m1, bi_some]; rfl, k4.tr m2⟩
theorem r_one {τ : pn_S} (hI : Inv τ h Λ) (e : τ 86 = V) (ht : t < vn V) {a b : Nat} (ha : a < 3) (hb : b < 2) : ∃ σ', fX11_oneHas (nI t) (nI a) (nI b) τ = some (-(lsV V Λ t (2 * a + b)), σ') ∧ FrR τ σ' := by
  have hw : VW V := by rw [← e]; exact hI.2.1
  have hn := hw.n.2
  obtain ⟨σ2, k1, k2, k3, k4, k5, k6, k7⟩ := rc hI e ht
  obtain ⟨σ3, m1, m2⟩ := r_loud hI e ht
  have g : fX11_of (nI t) 4 τ = some (tr V t 4) := rof hI e ht (k := 4) (by omega)
  unfold fX11_oneHas
  match a, ha, b, hb with
  | 0, _, 0, _ => exact ⟨σ2, by rw [if_neg (show ¬ nI 0 = 1 by decide), if_pos (show nI 0 = 0 from rfl), k1, bi_some, r_price (crowd_s8 hn), Option.bind_some, k6]; rfl, k4⟩
  | 0, _, 1, _ => exact ⟨τ, by rw [if_pos (show nI 1 = 1 from rfl), if_pos (show nI 0 = 0 from rfl)]; rfl, FrR.rf⟩
  | 1, _, 0, _ => exact ⟨σ3, by rw [if_neg (show ¬ nI 0 = 1 by decide), if_neg (show ¬ nI 1 = 0 by decide), if_pos (show nI 1 = 1 from rfl), m1, bi_some]; rfl, m2⟩
  | 1, _, 1, _ => exact ⟨τ, by rw [if_pos (show nI 1 = 1 from rfl), if_neg (show ¬ nI 1 = 0 by decide), show lsV V Λ t (2 * 1 + 1) = 0 from rfl, show -(0 : Int32) = 0 by decide], FrR.rf⟩
  | 2, _, 0, _ => exact ⟨τ, by rw [if_neg (show ¬ nI 0 = 1 by decide), if_neg (show ¬ nI 2 = 0 by decide), if_neg (show ¬ nI 2 = 1 by decide), g, Option.bind_some]; rfl, FrR.rf⟩
  | 2, _, 1, _ => exact ⟨τ, by rw [if_pos (show nI 1 = 1 from rfl), if_neg (show ¬ nI 2 = 0 by decide), show lsV V Λ t (2 * 2 + 1) = 0 from rfl, show -(0 : Int32) = 0 by decide], FrR.rf⟩
theorem r_vil {τ : pn_S} (hI : Inv τ h Λ) (e : τ 86 = V) (ht : t < vn V) {a b : Nat} (ha : a < 3) (hb : b < 2) : ∃ σ', fX11_villageHas (nI t) (nI a) (nI b) τ = some (gnV V Λ t (2 * a + b), σ') ∧ FrR τ σ' := by
  obtain ⟨σ2, k1, k2, k3, k4, k5, k6, k7⟩ := rc hI e ht
  obtain ⟨σ3, m1, m2⟩ := r_loud hI e ht
  unfold fX11_villageHas
  match a, ha, b, hb with
  | 0, _, 0, _ => exact ⟨σ2, by rw [if_neg (show ¬ nI 0 = 1 by decide), if_pos (show nI 0 = 0 from rfl), k1, bi_some, r_thr k7 k6, Option.bind_some]; rfl, k4⟩
  | 0, _, 1, _ => exact ⟨τ, by rw [if_pos (show nI 1 = 1 from rfl)]; rfl, FrR.rf⟩
  | 1, _, 0, _ => exact ⟨σ3, by rw [if_neg (show ¬ nI 0 = 1 by decide), if_neg (show ¬ nI 1 = 0 by decide), if_pos (show nI 1 = 1 from rfl), m1, bi_some]; rfl, m2⟩
  | 1, _, 1, _ => exact ⟨τ, by rw [if_pos (show nI 1 = 1 from rfl)]; rfl, FrR.rf⟩
  | 2, _, 0, _ => exact ⟨τ, by rw [if_neg (show ¬ nI 0 = 1 by decide), if_neg (show ¬ nI 2 = 0 by decide), if_neg (show ¬ nI 2 = 1 by decide)]; rfl, FrR.rf⟩
  | 2, _, 1, _ => exact ⟨τ, by rw [if_pos (show nI 1 = 1 from rfl)]; rfl, FrR.rf⟩
def rB (l g : Nat → Int32) (a b k : Nat) : Bool := fo (fun j (B : Bool) => B && !decide (-(l (2 * a + b)) < -(l (2 * j + b)))) 0 k (!decide (g (2 * a + b) < g (2 * a + (1 - b))))
theorem r_do {τ : pn_S} (hI : Inv τ h Λ) (e : τ 86 = V) (ht : t < vn V) {a b : Nat} (ha : a < 3) (hb : b < 2) : ∃ σ', fX11_doRest (nI t) (nI a) (nI b) τ = some (b01 (rB (lsV V Λ t) (gnV V Λ t) a b 3), σ') ∧ FrR τ σ' := by
  have e1b : (1 : Int32) - nI b = nI (1 - b) := (by decide : ∀ b, b < 2 → (1 : Int32) - nI b = nI (1 - b)) b hb
  obtain ⟨σ1, k1, k2⟩ := r_vil hI e ht ha hb
  have i1 := hI.core (Core_R k2)
  have e1 := k2.w.trans e
  obtain ⟨σ2, m1, m2⟩ := r_vil i1 e1 ht ha (b := 1 - b) (by omega)
  unfold fX11_doRest
  rw [k1, bi_some, e1b, m1, bi_some]
  obtain ⟨s, j1, j2, j3⟩ := lpE (n := 3) (F := fun f k (s : Bool × pn_S) => fX11_doRest_29 f (nI t) (nI a) (nI b) (b01 s.1) (nI k) s.2) (out := fun s => some (b01 s.1, s.2)) (fun k s => s.1 = rB (lsV V Λ t) (gnV V Λ t) a b k ∧ FrR τ s.2)
    (fun f s _ => by
      rw [fX11_doRest_29, if_pos (show (3 : Int32) ≤ nI 3 by decide), if_pos (by cases s.1 <;> decide)])
    (fun f k s hk hs => by
      obtain ⟨B, ρ⟩ := s
      obtain ⟨h1, h2⟩ : B = rB (lsV V Λ t) (gnV V Λ t) a b k ∧ FrR τ ρ := hs
      have iρ := hI.core (Core_R h2)
      have eρ := h2.w.trans e
      have st : rB (lsV V Λ t) (gnV V Λ t) a b (k + 1) = (B && !decide (-(lsV V Λ t (2 * a + b)) < -(lsV V Λ t (2 * k + b)))) := by rw [h1]; exact fo_s _ _ _
      show ∃ s', fX11_doRest_29 (f + 1) (nI t) (nI a) (nI b) (b01 B) (nI k) ρ = _ ∧ _
      rw [fX11_doRest_29, if_neg (show ¬ (3 : Int32) ≤ nI k from nI_ge (b := 3) hk (by omega)), nI_1]
      cases B with
      | false => exact ⟨(false, ρ), by rw [if_pos (show b01 false = 0 from rfl)]; rfl, by rw [st]; rfl, h2⟩
      | true =>
        obtain ⟨ρ1, n1, n2⟩ := r_one iρ eρ ht ha hb
        obtain ⟨ρ2, l1, l2⟩ := r_one (iρ.core (Core_R n2)) (n2.w.trans eρ) ht (a := k) (by omega) hb
        rw [if_neg (show ¬ b01 true = 0 by decide), n1, bi_some, l1, bi_some]
        by_cases q : -(lsV V Λ t (2 * a + b)) < -(lsV V Λ t (2 * k + b))
        · exact ⟨(false, ρ2), by rw [if_pos q]; rfl, by rw [st, decide_eq_true q]; rfl, (h2.tr n2).tr l2⟩
        · exact ⟨(true, ρ2), by rw [if_neg q]; rfl, by rw [st, decide_eq_false q]; rfl, (h2.tr n2).tr l2⟩) 3 0 5000 (!decide (gnV V Λ t (2 * a + b) < gnV V Λ t (2 * a + (1 - b))), σ2) (by omega) (by omega) ⟨rfl, k2.tr m2⟩
  refine ⟨s.2, ?_, j3⟩
  rw [← j2]
  refine Eq.trans ?_ j1
  by_cases q : gnV V Λ t (2 * a + b) < gnV V Λ t (2 * a + (1 - b))
  · rw [if_pos q, decide_eq_true q]; rfl
  · rw [if_neg q, decide_eq_false q]; rfl
theorem rB_iff (hw : VW V) (hL : LW Λ) (ht : t < vn V) {a b : Nat} (ha : a < 3) (hb : b < 2) : (rB (lsV V Λ t) (gnV V Λ t) a b 3 = true) ↔ (lsV V Λ t (2 * a + b) = mn3 (lsV V Λ t ((2 * a + b) % 2)) (lsV V Λ t (2 + (2 * a + b) % 2)) (lsV V Λ t (4 + (2 * a + b) % 2)) ∧ ¬ gnV V Λ t (2 * a + b) < gnV V Λ t (cx (2 * a + b))) := by
  have ec : cx (2 * a + b) = 2 * a + (1 - b) := by unfold cx; split <;> omega
  have em : (2 * a + b) % 2 = b := by omega
  have p := ls_pos (V := V) (Λ := Λ) (t := t) hw hL ht
  have hx : lsV V Λ t (2 * a + b) = lsV V Λ t b ∨ lsV V Λ t (2 * a + b) = lsV V Λ t (2 + b) ∨ lsV V Λ t (2 * a + b) = lsV V Λ t (4 + b) := by
    match a, ha with
    | 0, _ => exact Or.inl (by rw [show 2 * 0 + b = b by omega])
    | 1, _ => exact Or.inr (Or.inl rfl)
    | 2, _ => exact Or.inr (Or.inr rfl)
  rw [ec, em, mn3_iff hx]
  have e : rB (lsV V Λ t) (gnV V Λ t) a b 3 = (((!decide (gnV V Λ t (2 * a + b) < gnV V Λ t (2 * a + (1 - b))) && !decide (-(lsV V Λ t (2 * a + b)) < -(lsV V Λ t (2 * 0 + b)))) && !decide (-(lsV V Λ t (2 * a + b)) < -(lsV V Λ t (2 * 1 + b)))) && !decide (-(lsV V Λ t (2 * a + b)) < -(lsV V Λ t (2 * 2 + b)))) := rfl
  rw [e]
  simp only [Bool.and_eq_true, Bool.not_eq_true', decide_eq_false_iff_not]
  rw [neg_lt (p _) (p _), neg_lt (p _) (p _), neg_lt (p _) (p _), show 2 * 0 + b = b by omega]
  constructor
  · rintro ⟨⟨⟨z1, z2⟩, z3⟩, z4⟩; exact ⟨⟨z2, z3, z4⟩, z1⟩
  · rintro ⟨⟨z2, z3, z4⟩, z1⟩; exact ⟨⟨⟨z1, z2⟩, z3⟩, z4⟩
theorem r_rests {τ : pn_S} (hI : Inv τ h Λ) (e : τ 86 = V) (ht : t < vn V) : ∃ σ', fX11_rests_24 5000 (nI t) 0 0 τ = some (fo (rstS (lsV V Λ t) (gnV V Λ t)) 0 6 0, σ') ∧ FrR τ σ' := by
  have hw : VW V := by rw [← e]; exact hI.2.1
  obtain ⟨s, j1, j2, j3⟩ := lpE (n := 3) (F := fun f a (s : Int32 × pn_S) => fX11_rests_24 f (nI t) s.1 (nI a) s.2) (out := fun s => some (s.1, s.2)) (fun a s => s.1 = fo (rstS (lsV V Λ t) (gnV V Λ t)) 0 (2 * a) 0 ∧ FrR τ s.2)
    (fun f s _ => by rw [fX11_rests_24, if_pos (show (3 : Int32) ≤ nI 3 by decide)])
    (fun f a s ha hs => by
      rw [fX11_rests_24, if_neg (show ¬ (3 : Int32) ≤ nI a from nI_ge (b := 3) ha (by omega))]
      obtain ⟨s', k1, k2, k3⟩ := lpE (n := 2) (F := fun f' b (s : Int32 × pn_S) => fX11_rests_32 (fX11_rests_24 f) f' (nI t) s.1 (nI a) (nI b) s.2) (out := fun s => fX11_rests_24 f (nI t) s.1 (nI (a + 1)) s.2) (fun b s => s.1 = fo (rstS (lsV V Λ t) (gnV V Λ t)) 0 (2 * a + b) 0 ∧ FrR τ s.2)
        (fun f' s _ => by rw [fX11_rests_32, if_pos (show (2 : Int32) ≤ nI 2 by decide), nI_1])
        (fun f' b s hb hs => by
          obtain ⟨acc, ρ⟩ := s
          obtain ⟨h1, h2⟩ : acc = fo (rstS (lsV V Λ t) (gnV V Λ t)) 0 (2 * a + b) 0 ∧ FrR τ ρ := hs
          obtain ⟨ρ1, n1, n2⟩ := r_do (hI.core (Core_R h2)) (h2.w.trans e) ht ha hb
          have iff := rB_iff (V := V) (Λ := Λ) (t := t) hw hI.2.2.2.2.1 ht ha hb
          have ei : (2 : Int32) * nI a + nI b = nI (2 * a + b) := by rw [q_lit 2, pk_mul, nI_add]
          refine ⟨(rstS (lsV V Λ t) (gnV V Λ t) (2 * a + b) acc, ρ1), ?_, by rw [← Nat.add_assoc, fo_s, ← h1], h2.tr n2⟩
          show fX11_rests_32 (fX11_rests_24 f) (f' + 1) (nI t) acc (nI a) (nI b) ρ = _
          rw [fX11_rests_32, if_neg (show ¬ (2 : Int32) ≤ nI b from nI_ge (b := 2) hb (by omega)), n1, bi_some, ei, nI_1]
          unfold rstS
          cases hB : rB (lsV V Λ t) (gnV V Λ t) a b 3 with
          | true =>
            rw [if_neg (show ¬ b01 true = 0 by decide), if_pos (iff.mp hB)]
            rfl
          | false =>
            rw [if_pos (show b01 false = 0 from rfl), if_neg (fun z => by rw [iff.mpr z] at hB; cases hB), or0]) 2 0 5000 s (by omega) (by omega) ⟨hs.1, hs.2⟩
      exact ⟨s', k1, k2, k3⟩) 3 0 5000 (0, τ) (by omega) (by omega) ⟨rfl, FrR.rf⟩
  refine ⟨s.2, ?_, j3⟩
  refine j1.trans ?_
  rw [j2]
theorem ag_rests (a : Int32) : Ag (fX10_rests a) (fX11_rests a) hL_rests :=
  ag_1 (a := a) (fun _ => rfl) (fun _ => rfl) (if_pos rfl) fun σ h Λ t hI ht ha => by
    subst ha
    obtain ⟨σ1, g1, g2, g3, g4, g5, g6, g7⟩ := cs hI ht
    have kq : fX10_priceOf σ1 = some (σ 86 10 * nI (pc (cr0 (σ 86) Λ t))) := c_priceOf g5 g2
    have kt : fX10_thirstOf σ1 = some (thr (σ 86) (cr0 (σ 86) Λ t)) := c_thr g5 hI.2.1 g2.1
    have p1 := c_pt (a := 0) (b := 0) (c := 0) rfl (by omega) (σ 86 10 * nI (pc (cr0 (σ 86) Λ t))) (thr (σ 86) (cr0 (σ 86) Λ t)) σ1
    have kn : ∀ z : pn_S, z 37 = σ1 37 → z 37 6 = nz (pans (σ 86) Λ t) (cr0 (σ 86) Λ t) := fun z hz => by rw [hz]; exact g2.2.2.1
    have p1 : fX1_put 0 0 (σ 86 10 * nI (pc (cr0 (σ 86) Λ t))) (thr (σ 86) (cr0 (σ 86) Λ t)) σ1 = _ := p1
    generalize hA : pn_up (pn_up σ1 82 0 (σ 86 10 * nI (pc (cr0 (σ 86) Λ t)))) 83 0 (thr (σ 86) (cr0 (σ 86) Λ t)) = A at p1
    have fA : Fr (fun i => i = 82 ∨ i = 83) σ1 A := by rw [← hA]; exact (Fr.rf.up (by omega)).up (by omega)
    have nA := kn A (fA 37 (by omega))
    have p2 : fX1_put 1 0 (nz (pans (σ 86) Λ t) (cr0 (σ 86) Λ t)) (nz (pans (σ 86) Λ t) (cr0 (σ 86) Λ t)) A = _ := c_pt (a := 1) (b := 0) (c := 2) rfl (by omega) (nz (pans (σ 86) Λ t) (cr0 (σ 86) Λ t)) (nz (pans (σ 86) Λ t) (cr0 (σ 86) Λ t)) A
    generalize hB : pn_up (pn_up A 82 2 (nz (pans (σ 86) Λ t) (cr0 (σ 86) Λ t))) 83 2 (nz (pans (σ 86) Λ t) (cr0 (σ 86) Λ t)) = B at p2
    have fB : Fr (fun i => i = 82 ∨ i = 83) σ1 B := by rw [← hB]; exact (fA.up (by omega)).up (by omega)
    have go : fX8_of 5 (nI t) 4 B = some (tr (σ 86) t 4) := c_of (cv_fr g5 (fB 5 (by omega)) (fB 6 (by omega)) (fB 7 (by omega))) hI.2.1 ht (k := 4) (by omega)
    have p3 : fX1_put 2 0 (tr (σ 86) t 4) (-1) B = _ := c_pt (a := 2) (b := 0) (c := 4) rfl (by omega) (tr (σ 86) t 4) (-1) B
    generalize hC : pn_up (pn_up B 82 4 (tr (σ 86) t 4)) 83 4 (-1) = C at p3
    have p4 : fX1_put 0 1 1 0 C = _ := c_pt (a := 0) (b := 1) (c := 1) rfl (by omega) 1 0 C
    generalize hD : pn_up (pn_up C 82 1 1) 83 1 0 = D at p4
    have p5 : fX1_put 1 1 0 0 D = _ := c_pt (a := 1) (b := 1) (c := 3) rfl (by omega) 0 0 D
    generalize hE : pn_up (pn_up D 82 3 0) 83 3 0 = E at p5
    have p6 : fX1_put 2 1 0 0 E = _ := c_pt (a := 2) (b := 1) (c := 5) rfl (by omega) 0 0 E
    generalize hG : pn_up (pn_up E 82 5 0) 83 5 0 = G at p6
    have l : ∀ c, c < 6 → G 82 c = lsV (σ 86) Λ t c := fun c hc => by
      rw [← hG, ← hE, ← hD, ← hC, ← hB, ← hA]
      match c, hc with
      | 0, _ => rfl
      | 1, _ => rfl
      | 2, _ => rfl
      | 3, _ => rfl
      | 4, _ => rfl
      | 5, _ => rfl
    have g : ∀ c, c < 6 → G 83 c = gnV (σ 86) Λ t c := fun c hc => by
      rw [← hG, ← hE, ← hD, ← hC, ← hB, ← hA]
      match c, hc with
      | 0, _ => rfl
      | 1, _ => rfl
      | 2, _ => rfl
      | 3, _ => rfl
      | 4, _ => rfl
      | 5, _ => rfl
    have fG : Fr (fun i => i = 82 ∨ i = 83) σ1 G := by
      rw [← hG, ← hE, ← hD, ← hC]
      exact (((((((fB.up (by omega)).up (by omega)).up (by omega)).up (by omega)).up (by omega)).up (by omega)).up (by omega)).up (by omega)
    refine agb_ro hI (x := fo (rstS (lsV (σ 86) Λ t) (gnV (σ 86) Λ t)) 0 6 0) (σ1 := G) ?_ ((Core_C g4).tr (Core_fr (fG.mono fun i hi => by unfold scr; omega))) fun τ iτ eτ => r_rests iτ eτ ht
    rw [g1, Option.bind_some, kq, Option.bind_some, kt, Option.bind_some, p1, Option.bind_some, nA, p2, Option.bind_some, go, Option.bind_some, p3, Option.bind_some, p4, Option.bind_some, p5, Option.bind_some, p6, Option.bind_some, c_rest G l g, Option.bind_some]
end
