/-! PURE: all others are looked at, and gather; the class -/
def ot (p t : Nat) : Int32 := fo (fun q acc => if q = t then acc else acc ||| bs q) 0 p 0
theorem ot_eq : ∀ n, n < 9 → ∀ t, t < 8 → ot n t = evb n &&& (bs t ^^^ (-1)) := by decide +kernel
theorem ot_s (p t : Nat) : ot (p + 1) t = if p = t then ot p t else ot p t ||| bs p := by
  unfold ot
  rw [fo_last, Nat.zero_add]
/-- who may come to t, but for those kept at home -/
def cnd (n t : Nat) (home : Int32) : Int32 := (evb n &&& (bs t ^^^ (-1))) &&& (home ^^^ (-1))
theorem cnd_s8 {n t : Nat} {home : Int32} (hn : n ≤ 8) : s8 (cnd n t home) := s8_and (s8_and (s8_evb hn))
theorem cnd_bt {n t : Nat} {home : Int32} (hn : n ≤ 8) (ht : t < 8) {p : Nat} (hp : p < 32) (h : bt (cnd n t home) p = true) : p < n ∧ p ≠ t := by
  unfold cnd at h
  rw [b_and, b_and, bt_evb hn, b_not hp, bt_bs (by omega) hp] at h
  simp only [Bool.and_eq_true, decide_eq_true_eq] at h
  exact ⟨h.1.1, by simpa using h.1.2⟩
/-- the crowd that comes to t, by these beginners -/
def crowd (V : pn_V) (Λ : pn_La) (t : Nat) (beg home : Int32) : Int32 × (Nat → Int32) × Int32 := crw (needs V Λ t) (cnd (vn V) t home) beg
theorem crowd_in {V : pn_V} {Λ : pn_La} {t : Nat} {beg home : Int32} (hn : vn V ≤ 8) (ht : t < 8) {p : Nat} (hp : p < 32) (h : bt (crowd V Λ t beg home).1 p = true) : p < vn V ∧ p ≠ t := cnd_bt hn ht hp (crw_in hp h)
theorem crowd_s8 {V : pn_V} {Λ : pn_La} {t : Nat} {beg home : Int32} (hn : vn V ≤ 8) : s8 (crowd V Λ t beg home).1 := crw_s8 (cnd_s8 hn)
/-- the same but for the class's scratch of crowds -/
def FrC (σ σ' : pn_S) : Prop := (∀ i, i ≠ 14 → i ≠ 19 → i ≠ 20 → i ≠ 37 → i ≠ 38 → i ≠ 39 → i ≠ 40 → σ' i = σ i) ∧ ∀ k, k ≠ 8 → k ≠ 9 → k ≠ 10 → σ' 14 k = σ 14 k
theorem FrC.rf {σ : pn_S} : FrC σ σ := ⟨fun _ _ _ _ _ _ _ _ => rfl, fun _ _ _ _ => rfl⟩
theorem FrC.tr {a b c : pn_S} (h : FrC a b) (h2 : FrC b c) : FrC a c := ⟨fun i h3 h4 h5 h6 h7 h8 h9 => (h2.1 i h3 h4 h5 h6 h7 h8 h9).trans (h.1 i h3 h4 h5 h6 h7 h8 h9), fun k h3 h4 h5 => (h2.2 k h3 h4 h5).trans (h.2 k h3 h4 h5)⟩
theorem FrC_W {a b : pn_S} (h : FrW 14 a b) : FrC a b := ⟨fun i h1 h2 h3 _ _ _ _ => h.1 i h1 h2 h3, h.2⟩
theorem FrC_37 {a b : pn_S} (h : Fr S37 a b) : FrC a b := ⟨fun i _ _ _ h1 _ _ h2 => h i (by unfold S37; omega), fun k _ _ _ => by rw [h 14 (by unfold S37; omega)]⟩
theorem FrC_up {a : pn_S} {i k : Nat} {x : Int32} (hi : i = 37 ∨ i = 38 ∨ i = 39 ∨ i = 40) : FrC a (pn_up a i k x) := ⟨fun j _ _ _ h1 h2 h3 h4 => pn_up_a _ _ _ _ (by omega), fun j _ _ _ => by rw [pn_up_a _ _ _ _ (by omega)]⟩
theorem cv_C {σ σ' : pn_S} {v : Nat} {V : pn_V} (h : CV σ v V) (hf : FrC σ σ') (hv : v + 3 ≤ 14) : CV σ' v V := cv_fr h (hf.1 _ (by omega) (by omega) (by omega) (by omega) (by omega) (by omega) (by omega)) (hf.1 _ (by omega) (by omega) (by omega) (by omega) (by omega) (by omega) (by omega)) (hf.1 _ (by omega) (by omega) (by omega) (by omega) (by omega) (by omega) (by omega))
theorem cl_C {σ σ' : pn_S} {h : Bool} {Λ : pn_La} (hC : CL σ 14 h Λ) (hf : FrC σ σ') : CL σ' 14 h Λ :=
  cl_fr hC (hf.2 6 (by omega) (by omega) (by omega)) (hf.1 15 (by omega) (by omega) (by omega) (by omega) (by omega) (by omega) (by omega)) (hf.1 16 (by omega) (by omega) (by omega) (by omega) (by omega) (by omega) (by omega)) (hf.1 17 (by omega) (by omega) (by omega) (by omega) (by omega) (by omega) (by omega)) (hf.1 18 (by omega) (by omega) (by omega) (by omega) (by omega) (by omega) (by omega))
/-- all others of t have been looked at -/
def INv (σ : pn_S) (V : pn_V) (Λ : pn_La) (t : Nat) : Prop := σ 37 3 = evb (vn V) &&& (bs t ^^^ (-1)) ∧ ∀ p, p < vn V → p ≠ t → σ 38 p = needs V Λ t p ∧ σ 39 p = pans V Λ t p
theorem c_invite_loop {v : Nat} {V : pn_V} {h0 : Bool} {Λ : pn_La} (hw : VW V) (hL : LW Λ) (hv : v + 3 ≤ 14) {t : Nat} (ht : t < vn V) : ∀ (k p f : Nat) (σ : pn_S), p + k = vn V → k < f → CV σ v V → CL σ 14 h0 Λ → σ 37 3 = ot p t → (∀ q, q < p → q ≠ t → σ 38 q = needs V Λ t q ∧ σ 39 q = pans V Λ t q) →
    ∃ σ', fX0_invite_8 v 14 f (nI t) (nI p) σ = some σ' ∧ σ' 37 3 = ot (vn V) t ∧ (∀ q, q < vn V → q ≠ t → σ' 38 q = needs V Λ t q ∧ σ' 39 q = pans V Λ t q) ∧ FrC σ σ' := by
  have hn := hw.n
  intro k
  induction k with
  | zero =>
    intro p f σ hp hf h hC h3 hq
    have e : σ v 2 = nI (vn V) := by rw [h.1.1, hn.1]
    match f, hf with
    | f + 1, _ =>
      have hpe : p = vn V := by omega
      subst hpe
      exact ⟨σ, by rw [fX0_invite_8, e, if_pos (nI_le (Nat.le_refl _) (by omega))], h3, hq, FrC.rf⟩
  | succ k ih =>
    intro p f σ hp hf h hC h3 hq
    have e : σ v 2 = nI (vn V) := by rw [h.1.1, hn.1]
    match f, hf with
    | f + 1, hf =>
      rw [fX0_invite_8, e, if_neg (nI_ge (by omega) (by omega)), if_neg (show ¬ (8 : Int32) ≤ nI p from nI_ge (b := 8) (by omega) (by omega)), nI_1]
      by_cases hpt : p = t
      · rw [if_pos (by rw [hpt])]
        exact ih (p + 1) f σ (by omega) (by omega) h hC (by rw [h3, ot_s, if_pos hpt]) (fun q h1 h2 => hq q (by omega) h2)
      · rw [if_neg (fun z => hpt ((nI_eq (by omega) (by omega)).mp z))]
        have f1 : FrC σ (pn_up σ 37 3 (σ 37 3 ||| (1 : Int32) <<< (nI p &&& 31))) := FrC_up (Or.inl rfl)
        obtain ⟨σ1, g1, g2, g3, g4⟩ := c_weigh (cv_C h f1 hv) hw (cl_C hC f1) hL hv (p := p) (t := t) (by omega) ht
        rw [g1, Option.bind_some, q_ib (by omega) (by omega), if_pos rfl, if_pos rfl, nI_clamp (by omega), g2]
        have e10 : pn_up σ1 38 p (needs V Λ t p) 14 10 = pans V Λ t p := by rw [pn_up_a _ _ _ _ (by omega)]; exact g3
        rw [e10]
        have f2 : FrC σ (pn_up (pn_up σ1 38 p (needs V Λ t p)) 39 p (pans V Λ t p)) := ((f1.tr (FrC_W g4)).tr (FrC_up (Or.inr (Or.inl rfl)))).tr (FrC_up (Or.inr (Or.inr (Or.inl rfl))))
        have e1 : ∀ i, i = 37 ∨ i = 38 ∨ i = 39 → σ1 i = (pn_up σ 37 3 (σ 37 3 ||| (1 : Int32) <<< (nI p &&& 31))) i := fun i hi => g4.1 i (by omega) (by omega) (by omega)
        obtain ⟨σ', k1, k2, k3, k4⟩ := ih (p + 1) f _ (by omega) (by omega) (cv_C h f2 hv) (cl_C hC f2) (by
          rw [pn_up_a _ _ _ _ (by omega), pn_up_a _ _ _ _ (by omega), e1 37 (Or.inl rfl), pn_up_s, h3, ot_s, if_neg hpt]
          rfl) (fun q h1 h2 => by
          by_cases hqp : q = p
          · subst hqp
            exact ⟨by rw [pn_up_a _ _ _ _ (by omega), pn_up_s], by rw [pn_up_s]⟩
          · have := hq q (by omega) h2
            refine ⟨?_, ?_⟩
            · rw [pn_up_a _ _ _ _ (by omega), pn_up_k _ _ _ _ hqp, e1 38 (Or.inr (Or.inl rfl)), pn_up_a _ _ _ _ (by omega)]; exact this.1
            · rw [pn_up_k _ _ _ _ hqp, pn_up_a _ _ _ _ (by omega), e1 39 (Or.inr (Or.inr rfl)), pn_up_a _ _ _ _ (by omega)]; exact this.2)
        exact ⟨σ', k1, k2, k3, f2.tr k4⟩
theorem c_invite {σ : pn_S} {v : Nat} {V : pn_V} {h0 : Bool} {Λ : pn_La} (h : CV σ v V) (hw : VW V) (hC : CL σ 14 h0 Λ) (hL : LW Λ) (hv : v + 3 ≤ 14) {t : Nat} (ht : t < vn V) : ∃ σ', fX0_invite v 14 (nI t) σ = some σ' ∧ INv σ' V Λ t ∧ FrC σ σ' := by
  have hn := hw.n.2
  unfold fX0_invite
  have f1 : FrC σ (pn_up σ 37 3 0) := FrC_up (Or.inl rfl)
  obtain ⟨σ', k1, k2, k3, k4⟩ := c_invite_loop hw hL hv ht (vn V) 0 5000 (pn_up σ 37 3 0) (by omega) (by omega) (cv_C h f1 hv) (cl_C hC f1) (by rw [pn_up_s]; rfl) (fun q hq => by omega)
  exact ⟨σ', k1, ⟨by rw [k2, ot_eq _ (by omega) _ (by omega)], k3⟩, f1.tr k4⟩
theorem c_gather2 {σ : pn_S} {V : pn_V} {Λ : pn_La} {t : Nat} (hn : vn V ≤ 8) (ht : t < vn V) (hI : INv σ V Λ t) (beg home : Int32) : ∃ σ', fX0_gather beg home σ = some σ' ∧ CC σ' (pans V Λ t) (crowd V Λ t beg home) ∧ INv σ' V Λ t ∧ FrC σ σ' := by
  obtain ⟨σ', g1, g2, g3, g4⟩ := c_gather (σ := σ) (beg := beg) (home := home) (by rw [hI.1]; exact s8_and (s8_evb hn))
  refine ⟨σ', g1, ?_, ⟨g3.trans hI.1, fun p h1 h2 => ?_⟩, FrC_37 g4⟩
  · have e : crw (σ 38) (σ 37 3 &&& (home ^^^ (-1))) beg = crowd V Λ t beg home := by
      rw [hI.1]
      exact crw_c fun p hp hb => by
        have := cnd_bt hn (by omega) (by omega) hb
        exact (hI.2 p this.1 this.2).1
    rw [e] at g2
    refine ⟨g2.1, g2.2.1, ?_, g2.2.2.2⟩
    rw [g2.2.2.1]
    exact nz_c fun p hp hb => by
      have := crowd_in hn (by omega) (by omega) hb
      exact (hI.2 p this.1 this.2).2
  · rw [g4 38 (by unfold S37; omega), g4 39 (by unfold S37; omega)]
    exact hI.2 p h1 h2
theorem c_summon {σ : pn_S} {V : pn_V} {h0 : Bool} {Λ : pn_La} (h : CV σ 5 V) (hw : VW V) (hC : CL σ 14 h0 Λ) (hL : LW Λ) {t : Nat} (ht : t < vn V) : ∃ σ', fX10_summonTo (nI t) σ = some σ' ∧ CC σ' (pans V Λ t) (crowd V Λ t (vbeg V) 0) ∧ INv σ' V Λ t ∧ FrC σ σ' := by
  unfold fX10_summonTo
  obtain ⟨σ1, g1, g2, g3⟩ := c_invite h hw hC hL (by omega) ht
  obtain ⟨σ2, k1, k2, k3, k4⟩ := c_gather2 hw.n.2 ht g2 (vbeg V) 0
  rw [g1, Option.bind_some, c_beg (cv_C h g3 (by omega)) hw, Option.bind_some, k1, Option.bind_some]
  exact ⟨σ2, rfl, k2, k3, g3.tr k4⟩
