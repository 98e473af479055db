/-! PURE: calls that look at one crowd -/
theorem ag_comes (a : Int32) : Ag (fX10_comes a) (fX11_comes a) hL_comes :=
  ag_1 (a := a) (fun _ => rfl) (fun _ => rfl) (if_pos rfl) fun σ h Λ p hI hp ha => by
    subst ha
    obtain ⟨σ1, g1, g2, g3, g4, g5, g6, g7⟩ := cs hI hp
    refine agb_ro hI (x := (crowd (σ 86) Λ p (vbeg (σ 86)) 0).1) (σ1 := σ1) (by rw [g1, Option.bind_some, g2.1]) (Core_C g4) fun τ iτ eτ => ?_
    obtain ⟨σ2, k1, k2, k3, k4, k5, k6, k7⟩ := rc iτ eτ hp
    exact ⟨σ2, by rw [k1, bi_some], k4⟩
theorem ag_rounds (a : Int32) : Ag (fX10_rounds a) (fX11_rounds a) hL_rounds :=
  ag_1 (a := a) (fun _ => rfl) (fun _ => rfl) (if_pos rfl) fun σ h Λ p hI hp ha => by
    subst ha
    obtain ⟨σ1, g1, g2, g3, g4, g5, g6, g7⟩ := cs hI hp
    refine agb_ro hI (x := (crowd (σ 86) Λ p (vbeg (σ 86)) 0).2.2) (σ1 := σ1) (by rw [g1, Option.bind_some, g2.2.2.2.1]) (Core_C g4) fun τ iτ eτ => ?_
    obtain ⟨σ2, k1, k2, k3, k4, k5, k6, k7⟩ := rc iτ eτ hp
    exact ⟨σ2, by rw [k1, bi_some, k3], k4⟩
theorem ag_loud (a : Int32) : Ag (fX10_loud a) (fX11_loud a) hL_loud :=
  ag_1 (a := a) (fun _ => rfl) (fun _ => rfl) (if_pos rfl) fun σ h Λ p hI hp ha => by
    subst ha
    have hn := hI.2.1.n.2
    obtain ⟨σ1, g1, g2, g3, g4, g5, g6, g7⟩ := cs hI hp
    refine agb_ro hI (x := nz (pans (σ 86) Λ p) (crowd (σ 86) Λ p (vbeg (σ 86)) 0).1) (σ1 := σ1) (by rw [g1, Option.bind_some, g2.2.2.1]) (Core_C g4) fun τ iτ eτ => ?_
    obtain ⟨σ2, k1, k2, k3, k4, k5, k6, k7⟩ := rc iτ eτ hp
    obtain ⟨σ3, m1, m2, m3, m4⟩ := rnz k7 k6 hp (cr_out (Λ := Λ) (t := p) (beg := vbeg (σ 86)) (home := 0) hn (by omega))
    exact ⟨σ3, by unfold fX11_loudTo; rw [k1, bi_some, m1, bi_some, bi_some], k4.tr m2⟩
theorem c_round {σ : pn_S} {p : Nat} (hp : p < 8) : fX0_roundOf (nI p) σ = some (σ 40 p) := by
  unfold fX0_roundOf
  rw [if_neg (nI_pos (by omega)), if_neg (show ¬ (8 : Int32) ≤ nI p from nI_ge (b := 8) (by omega) (by omega)), q_ib (by omega) (by omega), if_pos rfl, nI_clamp (by omega)]
theorem c_needsOf {σ : pn_S} {p : Nat} (hp : p < 8) : fX0_needsOf (nI p) σ = some (σ 38 p) := by
  unfold fX0_needsOf
  rw [if_neg (nI_pos (by omega)), if_neg (show ¬ (8 : Int32) ≤ nI p from nI_ge (b := 8) (by omega) (by omega)), q_ib (by omega) (by omega), if_pos rfl, nI_clamp (by omega)]
theorem c_pansOf {σ : pn_S} {p : Nat} (hp : p < 8) : fX0_pansOf (nI p) σ = some (σ 39 p) := by
  unfold fX0_pansOf
  rw [if_neg (nI_pos (by omega)), if_neg (show ¬ (8 : Int32) ≤ nI p from nI_ge (b := 8) (by omega) (by omega)), q_ib (by omega) (by omega), if_pos rfl, nI_clamp (by omega)]
theorem ag_when (a b : Int32) : Ag (fX10_when a b) (fX11_when a b) hL_when :=
  ag_2 (a := a) (b := b) (fX11_when_27 a b) (fX11_when_45 a b) (fun _ => rfl) (fun _ => rfl) (fun _ _ => rfl) (fun _ _ => rfl) (if_pos rfl) ((if_neg (by decide)).trans (if_pos rfl)) fun σ h Λ p t hI hp ht hne ha hb => by
    subst ha
    subst hb
    have hn := hI.2.1.n.2
    obtain ⟨σ1, g1, g2, g3, g4, g5, g6, g7⟩ := cs hI ht
    refine agb_ro hI (x := (crowd (σ 86) Λ t (vbeg (σ 86)) 0).2.1 p) (σ1 := σ1) (by rw [g1, Option.bind_some, c_round (by omega), Option.bind_some, g2.2.2.2.2 p (by omega)]) (Core_C g4) fun τ iτ eτ => ?_
    obtain ⟨σ2, k1, k2, k3, k4, k5, k6, k7⟩ := rc iτ eτ ht
    exact ⟨σ2, by rw [k1, bi_some, q_ib (by omega) (by omega), if_pos rfl, nI_clamp (by omega), k2 p hp], k4⟩
theorem c_priceOf {σ : pn_S} {V : pn_V} {f : Nat → Int32} {c : Int32 × (Nat → Int32) × Int32} (h : CV σ 5 V) (hc : CC σ f c) : fX10_priceOf σ = some (V 10 * nI (pc c.1)) := by
  unfold fX10_priceOf
  rw [h.1.2.2.2.2.2.2.2.2.2.1, hc.2.1]
theorem ag_price (a : Int32) : Ag (fX10_price a) (fX11_price a) hL_price :=
  ag_1 (a := a) (fun _ => rfl) (fun _ => rfl) (if_pos rfl) fun σ h Λ p hI hp ha => by
    subst ha
    obtain ⟨σ1, g1, g2, g3, g4, g5, g6, g7⟩ := cs hI hp
    refine agb_ro hI (x := σ 86 10 * nI (pc (crowd (σ 86) Λ p (vbeg (σ 86)) 0).1)) (σ1 := σ1) (by rw [g1, Option.bind_some, c_priceOf g5 g2, Option.bind_some]) (Core_C g4) fun τ iτ eτ => ?_
    obtain ⟨σ2, k1, k2, k3, k4, k5, k6, k7⟩ := rc iτ eτ hp
    exact ⟨σ2, by rw [k1, bi_some, r_price (crowd_s8 hI.2.1.n.2), Option.bind_some, k6], k4⟩
theorem ag_can (a : Int32) : Ag (fX10_can a) (fX11_can a) hL_can :=
  ag_1 (a := a) (fun _ => rfl) (fun _ => rfl) (if_pos rfl) fun σ h Λ p hI hp ha => by
    subst ha
    obtain ⟨σ1, g1, g2, g3, g4, g5, g6, g7⟩ := cs hI hp
    have g : fX8_of 5 (nI p) 3 σ1 = some (tr (σ 86) p 3) := c_of g5 hI.2.1 hp (k := 3) (by omega)
    refine agb_ro hI (x := if tr (σ 86) p 3 < σ 86 10 * nI (pc (crowd (σ 86) Λ p (vbeg (σ 86)) 0).1) then 0 else 1) (σ1 := σ1) (by rw [g1, Option.bind_some, g, Option.bind_some, c_priceOf g5 g2, Option.bind_some]; split <;> rfl) (Core_C g4) fun τ iτ eτ => ?_
    obtain ⟨σ2, k1, k2, k3, k4, k5, k6, k7⟩ := rc iτ eτ hp
    have k : fX11_of (nI p) 3 τ = some (tr (σ 86) p 3) := rof iτ eτ hp (k := 3) (by omega)
    refine ⟨σ2, ?_, k4⟩
    rw [k, Option.bind_some, k1, bi_some, r_price (crowd_s8 hI.2.1.n.2), Option.bind_some, k6]
    split <;> rfl
/-! fines -/
def mn (a b : Int32) : Int32 := if a < b then a else b
theorem mn_c (a b : Int32) : (if b < a then b else a) = mn a b := by
  unfold mn
  by_cases h1 : b < a
  · rw [if_pos h1, if_neg]
    rw [q_lt] at h1 ⊢
    omega
  · rw [if_neg h1]
    by_cases h2 : a < b
    · rw [if_pos h2]
    · rw [if_neg h2, q_eq]
      rw [q_lt] at h1 h2
      omega
def fins (V : pn_V) (c : Int32) (p : Nat) (acc : Int32) : Int32 := acc + (if bt c p = true then mn (tr V p 3) (V 9) else 0)
def fin (V : pn_V) (c : Int32) : Int32 := fo (fins V c) 0 (vn V) 0
theorem c_fines_loop {σ : pn_S} {V : pn_V} {c : Int32} (h : CV σ 5 V) (hw : VW V) (hc : σ 37 4 = c) : ∀ (k p f : Nat) (acc : Int32), p + k = vn V → k < f → fX10_finesOf_4 f acc (nI p) σ = some (fo (fins V c) p k acc) := by
  have hn := hw.n
  have e : σ 5 2 = nI (vn V) := by rw [h.1.1, hn.1]
  intro k
  induction k with
  | zero =>
    intro p f acc hp hf
    match f, hf with
    | f + 1, _ => rw [fX10_finesOf_4, e, if_pos (nI_le (by omega) (by omega))]; rfl
  | succ k ih =>
    intro p f acc hp hf
    match f, hf with
    | f + 1, hf =>
      have g : fX8_of 5 (nI p) 3 σ = some (tr V p 3) := c_of h hw (by omega) (k := 3) (by omega)
      rw [fX10_finesOf_4, e, if_neg (nI_ge (by omega) (by omega)), hc, c_hasBit (by omega), Option.bind_some, fo, fins]
      by_cases q : bt c p = true
      · rw [if_pos q, if_pos q, if_neg (by decide), g, Option.bind_some, jmin, Option.bind_some, nI_1, h.1.2.2.2.2.2.2.2.2.1, ih (p + 1) f _ (by omega) (by omega)]
        rfl
      · rw [if_neg q, if_neg q, if_pos rfl, nI_1, ih (p + 1) f _ (by omega) (by omega)]
theorem c_fines {σ : pn_S} {V : pn_V} {c : Int32} (h : CV σ 5 V) (hw : VW V) (hc : σ 37 4 = c) : fX10_finesOf σ = some (fin V c) := c_fines_loop h hw hc (vn V) 0 5000 0 (by omega) (by have := hw.n.2; omega)
theorem r_fin_loop {σ : pn_S} {h : Bool} {Λ : pn_La} {V : pn_V} {c : Int32} (hI : Inv σ h Λ) (e : σ 86 = V) : ∀ (k p f : Nat) (acc : Int32), p + k = vn V → k < f → fX11_watchedTo_11 f c acc (nI p) σ = some (fo (fins V c) p k acc, σ) := by
  have hn : vn V ≤ 8 := by rw [← e]; exact hI.2.1.n.2
  intro k
  induction k with
  | zero =>
    intro p f acc hp hf
    match f, hf with
    | f + 1, _ => rw [fX11_watchedTo_11, rpe hI e, Option.bind_some, if_pos (nI_le (by omega) (by omega))]; rfl
  | succ k ih =>
    intro p f acc hp hf
    match f, hf with
    | f + 1, hf =>
      have g : fX11_of (nI p) 3 σ = some (tr V p 3) := rof hI e (by omega) (k := 3) (by omega)
      rw [fX11_watchedTo_11, rpe hI e, Option.bind_some, if_neg (nI_ge (by omega) (by omega)), r_has (by omega), Option.bind_some, fo, fins]
      by_cases q : bt c p = true
      · rw [if_pos q, if_pos q, if_neg (by decide), g, Option.bind_some, jmin, Option.bind_some, nI_1, mn_c, e, ih (p + 1) f _ (by omega) (by omega)]
      · rw [if_neg q, if_neg q, if_pos rfl, nI_1, ih (p + 1) f _ (by omega) (by omega)]
theorem r_watched {τ : pn_S} {h : Bool} {Λ : pn_La} {V : pn_V} {p : Nat} (hI : Inv τ h Λ) (e : τ 86 = V) (hp : p < vn V) : ∃ σ', fX11_watchedTo (nI p) τ = some (fin V (crowd V Λ p (vbeg V) 0).1, σ') ∧ FrR τ σ' ∧ σ' 86 = V ∧ Inv σ' h Λ := by
  have hn : vn V ≤ 8 := by rw [← e]; exact hI.2.1.n.2
  obtain ⟨σ2, k1, k2, k3, k4, k5, k6, k7⟩ := rc hI e hp
  refine ⟨σ2, ?_, k4, k6, k7⟩
  unfold fX11_watchedTo
  rw [k1, bi_some]
  exact r_fin_loop k7 k6 (vn V) 0 5000 0 (by omega) (by omega)
theorem ag_watched (a : Int32) : Ag (fX10_watched a) (fX11_watched a) hL_watched :=
  ag_1 (a := a) (fun _ => rfl) (fun _ => rfl) (if_pos rfl) fun σ h Λ p hI hp ha => by
    subst ha
    obtain ⟨σ1, g1, g2, g3, g4, g5, g6, g7⟩ := cs hI hp
    refine agb_ro hI (x := fin (σ 86) (crowd (σ 86) Λ p (vbeg (σ 86)) 0).1) (σ1 := σ1) (by rw [g1, Option.bind_some, c_fines g5 hI.2.1 g2.1, Option.bind_some]) (Core_C g4) fun τ iτ eτ => ?_
    obtain ⟨σ2, k1, k2, k3, k4⟩ := r_watched iτ eτ hp
    exact ⟨σ2, by rw [k1, bi_some], k2⟩
/-! feuded -/
def feds (V : pn_V) (c : Int32) (t p : Nat) (acc : Int32) : Int32 := if bt c p = true ∧ tr V p 5 = nI t then acc ||| bs p else acc
theorem c_feuded_loop {σ : pn_S} {V : pn_V} {c : Int32} {t : Nat} (h : CV σ 5 V) (hw : VW V) (hc : σ 37 4 = c) : ∀ (k p f : Nat) (acc : Int32), p + k = vn V → k < f → fX10_feuded_14 f (nI t) acc (nI p) σ = some (.inl (fo (feds V c t) p k acc), σ) := by
  have hn := hw.n
  have e : σ 5 2 = nI (vn V) := by rw [h.1.1, hn.1]
  intro k
  induction k with
  | zero =>
    intro p f acc hp hf
    match f, hf with
    | f + 1, _ => rw [fX10_feuded_14, e, if_pos (nI_le (by omega) (by omega))]; rfl
  | succ k ih =>
    intro p f acc hp hf
    match f, hf with
    | f + 1, hf =>
      have g : fX8_of 5 (nI p) 5 σ = some (tr V p 5) := c_of h hw (by omega) (k := 5) (by omega)
      rw [fX10_feuded_14, e, if_neg (nI_ge (by omega) (by omega)), hc, c_hasBit (by omega), Option.bind_some, fo, feds]
      by_cases q : bt c p = true
      · rw [if_pos q, if_neg (by decide), g, Option.bind_some, nI_1]
        by_cases q2 : tr V p 5 = nI t
        · rw [if_pos q2, if_pos ⟨q, q2⟩, ih (p + 1) f _ (by omega) (by omega)]
          rfl
        · rw [if_neg q2, if_neg (fun z => q2 z.2), ih (p + 1) f _ (by omega) (by omega)]
      · rw [if_neg q, if_pos rfl, if_neg (fun z => q z.1), nI_1, ih (p + 1) f _ (by omega) (by omega)]
theorem or0 (x : Int32) : x ||| 0 = x := b_ext fun i _ => by rw [b_or, b_0, Bool.or_false]
theorem r_feuded_loop {σ : pn_S} {h : Bool} {Λ : pn_La} {V : pn_V} {c : Int32} {t : Nat} (hI : Inv σ h Λ) (e : σ 86 = V) : ∀ (k p f : Nat) (acc : Int32), p + k = vn V → k < f → fX11_feuded_31 f (nI t) c acc (nI p) σ = some (fo (feds V c t) p k acc, σ) := by
  have hn : vn V ≤ 8 := by rw [← e]; exact hI.2.1.n.2
  intro k
  induction k with
  | zero =>
    intro p f acc hp hf
    match f, hf with
    | f + 1, _ => rw [fX11_feuded_31, rpe hI e, Option.bind_some, if_pos (nI_le (by omega) (by omega))]; rfl
  | succ k ih =>
    intro p f acc hp hf
    match f, hf with
    | f + 1, hf =>
      have g : fX11_of (nI p) 5 σ = some (tr V p 5) := rof hI e (by omega) (k := 5) (by omega)
      rw [fX11_feuded_31, rpe hI e, Option.bind_some, if_neg (nI_ge (by omega) (by omega)), r_has (by omega), Option.bind_some, fo, feds]
      unfold fX11_feuded_68
      by_cases q : bt c p = true
      · rw [if_pos q, if_neg (by decide), g, Option.bind_some, nI_1]
        by_cases q2 : tr V p 5 = nI t
        · rw [if_pos q2, if_pos ⟨q, q2⟩, ih (p + 1) f _ (by omega) (by omega)]
          rfl
        · rw [if_neg q2, if_neg (fun z => q2 z.2), or0, ih (p + 1) f _ (by omega) (by omega)]
      · rw [if_neg q, if_pos rfl, if_neg (fun z => q z.1), nI_1, or0, ih (p + 1) f _ (by omega) (by omega)]
theorem ag_feuded (a : Int32) : Ag (fX10_feuded a) (fX11_feuded a) hL_feuded :=
  ag_1 (a := a) (fun _ => rfl) (fun _ => rfl) (if_pos rfl) fun σ h Λ p hI hp ha => by
    subst ha
    have hn := hI.2.1.n.2
    obtain ⟨σ1, g1, g2, g3, g4, g5, g6, g7⟩ := cs hI hp
    refine agb_ro hI (x := fo (feds (σ 86) (crowd (σ 86) Λ p (vbeg (σ 86)) 0).1 p) 0 (vn (σ 86)) 0) (σ1 := σ1) (by rw [g1, Option.bind_some]; exact c_feuded_loop g5 hI.2.1 g2.1 (vn (σ 86)) 0 5000 0 (by omega) (by omega)) (Core_C g4) fun τ iτ eτ => ?_
    obtain ⟨σ2, k1, k2, k3, k4, k5, k6, k7⟩ := rc iτ eτ hp
    refine ⟨σ2, ?_, k4⟩
    rw [k1, bi_some]
    exact r_feuded_loop k7 k6 (vn (σ 86)) 0 5000 0 (by omega) (by omega)
/-! against, person -/
theorem ag_against (a b c : Int32) : Ag (fX10_against a b c) (fX11_against a b c) hL_against :=
  ag_2 (a := a) (b := b) (fX11_against_27 a b c) (fX11_against_45 a b c) (fun _ => rfl) (fun _ => rfl) (fun _ _ => rfl) (fun _ _ => rfl) (if_pos rfl) ((if_neg (by decide)).trans (if_pos rfl)) fun σ h Λ p t hI hp ht hne ha hb => by
    subst ha
    subst hb
    obtain ⟨σ1, g1, g2, g3, g4⟩ := c_weigh hI.1 hI.2.1 hI.2.2.1 hI.2.2.2.2.1 (by omega) hp ht
    refine agb_ro hI (x := if c = 0 then needs (σ 86) Λ t p else pans (σ 86) Λ t p) (σ1 := σ1) (by rw [g1, Option.bind_some, g2, g3]; split <;> rfl) (Core_C (FrC_W g4)) fun τ iτ eτ => ?_
    obtain ⟨r1, k1⟩ := r_needs' (σ := τ) (p := p) (t := t) iτ.2.1 (by rw [eτ]; exact hp) (by rw [eτ]; exact ht) iτ.2.2.2.1 iτ.2.2.2.2.1
    obtain ⟨r2, k2⟩ := r_pans' (σ := τ) (p := p) (t := t) iτ.2.1 (by rw [eτ]; exact hp) (by rw [eτ]; exact ht) iτ.2.2.2.1 iτ.2.2.2.2.1
    rw [eτ] at k1 k2
    by_cases q : c = 0
    · exact ⟨_, by rw [if_pos q, k1, bi_some, if_pos q], FrR_ua (Or.inl rfl)⟩
    · exact ⟨_, by rw [if_neg q, k2, bi_some, if_neg q], FrR_ua (Or.inl rfl)⟩
theorem rg_k {a : Int32} {n : Nat} (h1 : 0 ≤ a.toInt) (h2 : a.toInt < n) : ∃ k, k < n ∧ a = nI k := by
  have h3 : rg a 0 n := ⟨h1, by omega⟩
  obtain ⟨e1, e2⟩ := rg_nI h3
  exact ⟨a.toNatClampNeg, by omega, e1⟩
theorem ag_person (a b : Int32) : Ag (fX10_person a b) (fX11_person a b) hL_person :=
  ag_1 (a := a) (fun _ => rfl) (fun _ => rfl) (if_pos rfl) fun σ h Λ p hI hp ha => by
    subst ha
    have e0 : (0 : Int32).toInt = 0 := rfl
    have e8 : (8 : Int32).toInt = 8 := rfl
    have e7 : (7 : Int32).toInt = 7 := rfl
    by_cases q : 0 ≤ b.toInt ∧ b.toInt ≤ 7
    · obtain ⟨k, hk, rfl⟩ := rg_k (n := 8) q.1 (by omega)
      refine agb_ro hI (x := tr (σ 86) p k) (σ1 := σ) ?_ ⟨fun _ _ => rfl, rfl, rfl, rfl, rfl, rfl, rfl, rfl, rfl, rfl, rfl, rfl⟩ fun τ iτ eτ => ⟨τ, ?_, FrR.rf⟩
      · rw [if_neg (by rw [q_lt]; omega), if_pos (by rw [q_lt]; omega), c_of hI.1 hI.2.1 hp hk, Option.bind_some]
      · have g := (r_in (nI k) 0 7 τ).1 q
        rw [g, Option.bind_some, if_neg (by decide)]
        unfold fX11_person_34
        rw [r_t0, bi_some, if_pos rfl, rof iτ eτ hp hk, Option.bind_some]
    · refine agb_thr hI (E := "java/util/NoSuchElementException") (c := 2) (b := 0) ?_ ((if_neg (by decide)).trans (if_pos rfl)) (by decide) ?_
      · unfold fX10_person_15
        by_cases h0 : b < 0
        · rw [if_pos h0]
        · rw [if_neg h0, if_neg]
          rw [q_lt] at h0 ⊢
          omega
      · have g := (r_in b 0 7 (pn_up σ 85 0 0)).2 q
        rw [g, Option.bind_some, if_pos rfl]
        unfold fX11_person_34
        rw [r_t1, bi_some, if_neg (by decide)]
/-! share -/
theorem nz_pos {V : pn_V} {Λ : pn_La} (hL : LW Λ) (t : Nat) {x : Int32} {p : Nat} (hp : p < 8) (hx : bt x p = true) : 1 ≤ (nz (pans V Λ t) x).toInt := by
  have key : ∀ k, k ≤ 8 → 0 ≤ (sm (fun q => if bt x q = true then pans V Λ t q else 0) k).toInt ∧ (sm (fun q => if bt x q = true then pans V Λ t q else 0) k).toInt ≤ 361 * k ∧ (p < k → 1 ≤ (sm (fun q => if bt x q = true then pans V Λ t q else 0) k).toInt) := by
    intro k
    induction k with
    | zero => intro _; exact ⟨by show (0 : Int) ≤ 0; omega, by show (0 : Int) ≤ _; omega, by omega⟩
    | succ k ih =>
      intro hk
      obtain ⟨i1, i2, i3⟩ := ih (by omega)
      have r := pans_rg (V := V) hL t k
      have r1 := r.1
      have r2 := r.2
      rw [sm_s]
      by_cases q : bt x k = true
      · rw [if_pos q, q_add (by omega) (by omega)]
        exact ⟨by omega, by omega, fun _ => by omega⟩
      · rw [if_neg q]
        have e0 : (0 : Int32).toInt = 0 := rfl
        rw [q_add (by omega) (by omega), e0]
        refine ⟨by omega, by omega, fun hpk => ?_⟩
        by_cases e : p = k
        · exact absurd (by rw [← e]; exact hx) q
        · have := i3 (by omega); omega
  exact (key 8 (by omega)).2.2 hp
theorem ag_share (a b : Int32) : Ag (fX10_share a b) (fX11_share a b) hL_share :=
  ag_2 (a := a) (b := b) (fX11_share_27 a b) (fX11_share_45 a b) (fun _ => rfl) (fun _ => rfl) (fun _ _ => rfl) (fun _ _ => rfl) (if_pos rfl) ((if_neg (by decide)).trans (if_pos rfl)) fun σ h Λ p t hI hp ht hne ha hb => by
    subst ha
    subst hb
    have hn := hI.2.1.n.2
    obtain ⟨σ1, g1, g2, g3, g4, g5, g6, g7⟩ := cs hI ht
    by_cases q : bt (crowd (σ 86) Λ t (vbeg (σ 86)) 0).1 p = true
    · have hz := nz_pos (V := σ 86) hI.2.2.2.2.1 t (by omega) q
      have e0 : (0 : Int32).toInt = 0 := rfl
      refine agb_ro hI (x := 100 * pans (σ 86) Λ t p / nz (pans (σ 86) Λ t) (crowd (σ 86) Λ t (vbeg (σ 86)) 0).1) (σ1 := σ1) ?_ (Core_C g4) fun τ iτ eτ => ?_
      · rw [g1, Option.bind_some, g2.1, c_hasBit (by omega), Option.bind_some, if_pos q, if_neg (by decide), g2.2.2.1, if_pos (by rw [q_lt]; omega), c_pansOf (by omega), Option.bind_some, (g3.2 p hp hne).2, if_neg (by rw [q_eq]; omega)]
      · obtain ⟨σ2, k1, k2, k3, k4, k5, k6, k7⟩ := rc iτ eτ ht
        obtain ⟨r2, m1⟩ := r_pans' (σ := σ2) (p := p) (t := t) k7.2.1 (by rw [k6]; exact hp) (by rw [k6]; exact ht) k7.2.2.2.1 k7.2.2.2.2.1
        rw [k6] at m1
        have f2 : FrR σ2 (pn_ua σ2 93 r2) := FrR_ua (Or.inl rfl)
        obtain ⟨σ3, n1, n2, n3, n4⟩ := rnz (k7.core (Core_R f2)) (f2.w.trans k6) ht (cr_out (Λ := Λ) (t := t) (beg := vbeg (σ 86)) (home := 0) hn (by omega))
        refine ⟨σ3, ?_, (k4.tr f2).tr n2⟩
        rw [k1, bi_some, r_has (by omega), Option.bind_some, if_pos q, if_neg (by decide), m1, bi_some, n1, bi_some, if_neg (by rw [q_eq]; omega)]
    · refine agb_ro hI (x := 0) (σ1 := σ1) ?_ (Core_C g4) fun τ iτ eτ => ?_
      · rw [g1, Option.bind_some, g2.1, c_hasBit (by omega), Option.bind_some, if_neg q, if_pos rfl]
      · obtain ⟨σ2, k1, k2, k3, k4, k5, k6, k7⟩ := rc iτ eτ ht
        exact ⟨σ2, by rw [k1, bi_some, r_has (by omega), Option.bind_some, if_neg q, if_pos rfl], k4⟩
