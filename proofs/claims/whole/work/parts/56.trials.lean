/-! PURE: nights ahead, trials, spans -/
theorem agb_ro2 {hL : String → Option Int32} {σ σ1 : pn_S} {h : Bool} {Λ : pn_La} {oc : Option ((Int32 ⊕ String) × pn_S)} {Br : pn_S → Option (Int32 × pn_S)} {x : Int32} (hI : Inv σ h Λ) (e1 : oc = some (.inl x, σ1)) (c1 : Core σ σ1) (H : ∀ τ, Inv τ h Λ → τ 86 = σ 86 → ∃ σ2, Br τ = some (x, σ2) ∧ Core τ σ2 ∧ σ2 85 0 = τ 85 0 ∧ σ2 96 = τ 96) : AgB hL σ oc Br := by
  have e86 : σ1 86 = σ 86 := c1.1 86 (by omega)
  refine Or.inl ⟨x, σ1, e1, e86, fun y => ?_⟩
  have iτ : Inv (pn_up (pn_up σ1 96 0 y) 85 0 0) h Λ := ((hI.core c1).core Core_96).core Core_thrown
  obtain ⟨σ2, k1, k2, k3, k4⟩ := H _ iτ ((w96 _ _ _).trans e86)
  refine ⟨σ2, h, Λ, k1, ?_, ?_, iτ.core k2⟩
  · rw [k3, pn_up_s]
  · rw [k4, pn_up_a _ _ _ _ (by omega), pn_up_s]
theorem r_noA {a : Int32} {τ : pn_S} : (0 ≤ a.toInt ∧ a.toInt ≤ 60 → fX11_noAhead a τ = some 0) ∧ (¬ (0 ≤ a.toInt ∧ a.toInt ≤ 60) → fX11_noAhead a τ = some 1) := by
  unfold fX11_noAhead
  refine ⟨fun q => ?_, fun q => ?_⟩
  · rw [(r_in a 0 60 τ).1 q, Option.bind_some, if_neg (by decide)]
  · rw [(r_in a 0 60 τ).2 q, Option.bind_some, if_pos rfl]
theorem agb_h {hL : String → Option Int32} {σ : pn_S} {h : Bool} {Λ : pn_La} {oc : Option ((Int32 ⊕ String) × pn_S)} {Br Br' : pn_S → Option (Int32 × pn_S)} {Bc : pn_S → Option ((Int32 ⊕ String) × pn_S)} {a c : Int32} (hI : Inv σ h Λ)
    (hfc : oc = pn_bx (fX10_checkNumber a 0 60 σ) fun _ σ1 => Bc σ1) (hfr : ∀ τ, Br τ = (fX11_noAhead a τ).bind fun x4 => pn_bi (fX11_throwsIf x4 c τ) fun x3 σ3 => if x3 = 0 then Br' σ3 else some (0, σ3))
    (hh : hL "java/lang/IllegalArgumentException" = some c) (hc : c ≠ 0) (hok : ∀ n, n ≤ 60 → a = nI n → AgB hL σ (Bc σ) Br') : AgB hL σ oc Br := by
  by_cases q : 0 ≤ a.toInt ∧ a.toInt ≤ 60
  · have e : oc = Bc σ := by
      have z : fX10_checkNumber a 0 60 σ = some (.inl (), σ) := c_num.1 q
      rw [hfc, z, bx_inl]
    have e2 : ∀ τ, Br τ = Br' τ := fun τ => by rw [hfr, r_noA.1 q, Option.bind_some, r_t0, bi_some, if_pos rfl]
    rw [e, funext e2]
    obtain ⟨n, hn, ha⟩ := rg_k (a := a) (n := 61) q.1 (by omega)
    exact hok n (by omega) ha
  · have z : fX10_checkNumber a 0 60 σ = some (.inr "java/lang/IllegalArgumentException", σ) := c_num.2 q
    exact agb_thr hI (by rw [hfc, z, bx_inr]) hh hc (b := 0) (by rw [hfr, r_noA.2 q, Option.bind_some, r_t1, bi_some, if_neg (by decide)])
theorem ag_h {fc : pn_S → Option ((Int32 ⊕ String) × pn_S)} {fr : pn_S → Option (Int32 × pn_S)} {hL : String → Option Int32} {Bc : pn_S → Option ((Int32 ⊕ String) × pn_S)} {Br : pn_S → Option (Int32 × pn_S)} {a : Int32}
    (hfc : ∀ σ, fc σ = pn_bx (fX10_checkNumber a 0 60 σ) fun _ σ1 => Bc σ1)
    (hfr : ∀ σ, fr σ = (fX11_noAhead a (pn_up σ 85 0 0)).bind fun x4 => pn_bi (fX11_throwsIf x4 1 (pn_up σ 85 0 0)) fun x3 σ3 => if x3 = 0 then Br σ3 else some (0, σ3))
    (hh : hL "java/lang/IllegalArgumentException" = some 1)
    (hok : ∀ σ h Λ n, Inv σ h Λ → n ≤ 60 → a = nI n → AgB hL σ (Bc σ) Br) : Ag fc fr hL := by
  intro σ h Λ hI
  rcases agb_h (oc := fc σ) (Br := fun τ => (fX11_noAhead a τ).bind fun x4 => pn_bi (fX11_throwsIf x4 1 τ) fun x3 σ3 => if x3 = 0 then Br σ3 else some (0, σ3)) (hL := hL) (c := 1) hI (hfc σ) (fun _ => rfl) hh (by decide) (fun n hn ha => hok σ h Λ n hI hn ha) with ⟨x, σ1, e1, e2, H⟩ | ⟨E, σ1, b, σ2, h', Λ', e1, e2, H, e3, e4, i2⟩
  · refine Or.inl ⟨x, σ1, e1, fun y => ?_⟩
    rw [hfr]
    exact H y
  · exact Or.inr ⟨E, σ1, b, σ2, h', Λ', e1, by rw [hfr]; exact H, e3, e4, i2⟩
theorem Core_N8 {a b : pn_S} (h : FrN 8 a b) : Core a b := by
  have e : ∀ i, i ≠ 8 → i ≠ 9 → i ≠ 10 → i ≠ 14 → i ≠ 19 → i ≠ 20 → i ≠ 37 → i ≠ 38 → i ≠ 39 → i ≠ 40 → b i = a i := h.1
  refine ⟨fun i hi => e i (by omega) (by omega) (by omega) (by omega) (by omega) (by omega) (by omega) (by omega) (by omega) (by omega), ?_, ?_, ?_, h.2 6 (by omega) (by omega) (by omega), ?_, ?_, ?_, ?_, ?_, ?_, ?_⟩ <;> rw [e _ (by omega) (by omega) (by omega) (by omega) (by omega) (by omega) (by omega) (by omega) (by omega) (by omega)]
theorem seed_W {V : pn_V} (hw : VW V) (s : Int32) : VW (upd V 12 s) := vw_f hw (by omega) (by omega) (Or.inl rfl)
theorem upd_self (V : pn_V) (k : Nat) : upd V k (V k) = V := by
  funext j
  unfold upd
  by_cases q : j = k
  · rw [if_pos q, q]
  · rw [if_neg q]
/-- the class tries nights -/
theorem c_try {σ : pn_S} {h : Bool} {Λ : pn_La} (hI : Inv σ h Λ) {n : Nat} (hn : n ≤ 60) (dr : Bool) (s : Int32) : ∃ σ', fX10_tryNights (nI n) (b01 dr) s σ = some σ' ∧ CV σ' 8 (nts Λ dr n (upd (σ 86) 12 s) 0).1 ∧ VW (nts Λ dr n (upd (σ 86) 12 s) 0).1 ∧ vn (nts Λ dr n (upd (σ 86) 12 s) 0).1 = vn (σ 86) ∧ Core σ σ' ∧ CV σ' 5 (σ 86) := by
  obtain ⟨c1, c2, c3⟩ := c_copy (v := 8) hI.1 hI.2.1 (by omega)
  have c4 : CV (pn_up (cpV σ 8 5) 8 12 s) 8 (upd (σ 86) 12 s) := cv_fld c2 12 12 s (by omega)
  have fr : Fr (fun i => i = 8 ∨ i = 9 ∨ i = 10) σ (pn_up (cpV σ 8 5) 8 12 s) := fun i hi => by rw [pn_up_a _ _ _ _ (by omega), c3 i (by omega)]
  have k0 : Core σ (pn_up (cpV σ 8 5) 8 12 s) := Core_fr (fr.mono fun i hi => by unfold scr; omega)
  obtain ⟨σ', g1, g2, g3, g4, g5⟩ := c_try_loop (dr := dr) hI.2.2.2.2.1 n 0 n 5000 _ _ 0 (by omega) (by omega) (by omega) c4 (seed_W hI.2.1 s) (hI.core k0).2.2.1
  refine ⟨σ', ?_, g2, g3, g4.trans (vn_up (by omega)), k0.tr (Core_N8 g5), ?_⟩
  · unfold fX10_tryNights
    rw [c1, Option.bind_some]
    exact g1
  · have := (hI.core (k0.tr (Core_N8 g5))).1
    rw [(k0.tr (Core_N8 g5)).w] at this
    exact this
theorem r_keeps {τ : pn_S} : fX11_keepsAll τ = some (pn_ua τ 89 (cpy (τ 89) (τ 86) 0 317)) := by
  obtain ⟨s, g1, g2⟩ := lpE (n := 317) (F := fun f k s => fX11_keepsAll_2 f (nI k) s) (out := fun s => some s) (fun k s => s = pn_ua τ 89 (cpy (τ 89) (τ 86) 0 k))
    (fun f s _ => by rw [fX11_keepsAll_2, if_pos (show (317 : Int32) ≤ nI 317 by decide)])
    (fun f k s hk hs => by
      refine ⟨_, ?_, cpy_s τ 89 0 k (τ 86)⟩
      have e86 : s 86 = τ 86 := by rw [hs, pn_ua_a _ _ _ (by omega)]
      rw [fX11_keepsAll_2, if_neg (show ¬ (317 : Int32) ≤ nI k from nI_ge (b := 317) hk (by omega)), q_ib (by omega) (by omega), if_pos rfl, q_ib (by omega) (by omega), if_pos rfl, nI_1, nI_clamp (by omega), e86, hs, Nat.zero_add]) 317 0 5000 τ (by omega) (by omega) (cpy_0 _ _ _ _).symm
  unfold fX11_keepsAll
  refine g1.trans ?_
  rw [g2]
theorem r_brs {τ : pn_S} : fX11_bringsBack τ = some (pn_ua τ 86 (cpy (τ 86) (τ 89) 0 317)) := by
  obtain ⟨s, g1, g2⟩ := lpE (n := 317) (F := fun f k s => fX11_bringsBack_2 f (nI k) s) (out := fun s => some s) (fun k s => s = pn_ua τ 86 (cpy (τ 86) (τ 89) 0 k))
    (fun f s _ => by rw [fX11_bringsBack_2, if_pos (show (317 : Int32) ≤ nI 317 by decide)])
    (fun f k s hk hs => by
      refine ⟨_, ?_, cpy_s τ 86 0 k (τ 89)⟩
      have e89 : s 89 = τ 89 := by rw [hs, pn_ua_a _ _ _ (by omega)]
      rw [fX11_bringsBack_2, if_neg (show ¬ (317 : Int32) ≤ nI k from nI_ge (b := 317) hk (by omega)), q_ib (by omega) (by omega), if_pos rfl, q_ib (by omega) (by omega), if_pos rfl, nI_1, nI_clamp (by omega), e89, hs, Nat.zero_add]) 317 0 5000 τ (by omega) (by omega) (cpy_0 _ _ _ _).symm
  unfold fX11_bringsBack
  refine g1.trans ?_
  rw [g2]
/-- the reference has kept V, and its world is some other village of the same law -/
def Kept (τ ρ : pn_S) : Prop := (∀ k, k < 317 → ρ 89 k = τ 86 k) ∧ (∀ k, 317 ≤ k → ρ 86 k = τ 86 k) ∧ (∀ i, i ≠ 85 → i ≠ 86 → i ≠ 89 → i ≠ 93 → i ≠ 94 → i ≠ 95 → ρ i = τ i) ∧ ∀ k, k ≠ 20 → ρ 85 k = τ 85 k
theorem kept_0 (τ : pn_S) : Kept τ (pn_ua τ 89 (cpy (τ 89) (τ 86) 0 317)) := ⟨fun k hk => by rw [pn_ua_s, cpy_lo hk], fun k _ => by rw [pn_ua_a _ _ _ (by omega)], fun i _ _ q _ _ _ => pn_ua_a _ _ _ q, fun k _ => by rw [pn_ua_a _ _ _ (by omega)]⟩
theorem kept_N {τ ρ ρ' : pn_S} (h : Kept τ ρ) (hf : FrRN ρ ρ') (hk : Kp (ρ' 86) (ρ 86)) : Kept τ ρ' := by
  obtain ⟨a, b, c, d⟩ := h
  refine ⟨fun k q => by rw [hf.1 89 (by omega) (by omega) (by omega) (by omega) (by omega)]; exact a k q, fun k q => (hk k (Or.inr q)).trans (b k q), fun i q1 q2 q3 q4 q5 q6 => (hf.1 i q1 q2 q4 q5 q6).trans (c i q1 q2 q3 q4 q5 q6), fun k q => (hf.2 k q).trans (d k q)⟩
theorem r_back {τ ρ : pn_S} (h : Kept τ ρ) : ∃ ρ', fX11_bringsBack ρ = some ρ' ∧ Core τ ρ' ∧ ρ' 85 0 = τ 85 0 ∧ ρ' 96 = τ 96 ∧ ρ' 86 = τ 86 ∧ Kept τ ρ' := by
  obtain ⟨a, b, c, d⟩ := id h
  have e86 : pn_ua ρ 86 (cpy (ρ 86) (ρ 89) 0 317) 86 = τ 86 := by
    rw [pn_ua_s]
    funext k
    by_cases q : k < 317
    · rw [cpy_lo q]; exact a k q
    · unfold cpy
      rw [if_neg (by omega)]
      exact b k (by omega)
  have e85 : ∀ k, k ≠ 20 → pn_ua ρ 86 (cpy (ρ 86) (ρ 89) 0 317) 85 k = τ 85 k := fun k hk => by rw [pn_ua_a _ _ _ (by omega)]; exact d k hk
  have ei : ∀ i, i ≠ 85 → i ≠ 89 → i ≠ 93 → i ≠ 94 → i ≠ 95 → pn_ua ρ 86 (cpy (ρ 86) (ρ 89) 0 317) i = τ i := fun i q1 q3 q4 q5 q6 => by
    by_cases z : i = 86
    · rw [z]; exact e86
    · rw [pn_ua_a _ _ _ z]; exact c i q1 z q3 q4 q5 q6
  refine ⟨_, r_brs, ⟨fun i hi => ei i (by omega) (by omega) (by omega) (by omega) (by omega), ?_, ?_, ?_, ?_, ?_, ?_, ?_, e85 6 (by omega), e85 7 (by omega), e85 9 (by omega), e85 14 (by omega)⟩, e85 0 (by omega), ei 96 (by omega) (by omega) (by omega) (by omega) (by omega), e86, ?_⟩
  all_goals try rw [ei _ (by omega) (by omega) (by omega) (by omega) (by omega)]
  refine ⟨fun k q => by rw [pn_ua_a _ _ _ (by omega)]; exact a k q, fun k q => by rw [e86], fun i q1 q2 q3 q4 q5 q6 => ei i q1 q3 q4 q5 q6, e85⟩
theorem r_goes {ρ : pn_S} {h : Bool} {Λ : pn_La} {n : Nat} (hn : n ≤ 60) (hw : VW (ρ 86)) (hR : RLa (ρ 86) h Λ) (hL : LW Λ) (dr : Bool) : ∃ ρ', fX11_goesOn (nI n) (b01 (!dr)) ρ = some ((nts Λ dr n (ρ 86) 0).2, ρ') ∧ ρ' 86 = (nts Λ dr n (ρ 86) 0).1 ∧ VW (ρ' 86) ∧ Kp (ρ' 86) (ρ 86) ∧ FrRN ρ ρ' := by
  unfold fX11_goesOn
  exact r_goes_loop hL (fun V hV => (night_W hL hV).1) n 0 n 5000 ρ 0 (by omega) (by omega) (by omega) hw hR
/-- keep, go on, look, and bring back -/
theorem r_try {τ : pn_S} {h : Bool} {Λ : pn_La} (hI : Inv τ h Λ) {n : Nat} (hn : n ≤ 60) (dr : Bool) : ∃ ρ, fX11_goesOn (nI n) (b01 (!dr)) (pn_ua τ 89 (cpy (τ 89) (τ 86) 0 317)) = some ((nts Λ dr n (τ 86) 0).2, ρ) ∧ ρ 86 = (nts Λ dr n (τ 86) 0).1 ∧ VW (ρ 86) ∧ Kept τ ρ := by
  have e : pn_ua τ 89 (cpy (τ 89) (τ 86) 0 317) 86 = τ 86 := pn_ua_a _ _ _ (by omega)
  obtain ⟨ρ, g1, g2, g3, g4, g5⟩ := r_goes (ρ := pn_ua τ 89 (cpy (τ 89) (τ 86) 0 317)) hn (by rw [e]; exact hI.2.1) (by rw [e]; exact hI.2.2.2.1) hI.2.2.2.2.1 dr
  refine ⟨ρ, by rw [e] at g1; exact g1, by rw [e] at g2; exact g2, g3, kept_N (kept_0 τ) g5 g4⟩
theorem nts_vn {Λ : pn_La} {dr : Bool} (hL : LW Λ) : ∀ (k : Nat) (V : pn_V) (a : Int32), VW V → vn (nts Λ dr k V a).1 = vn V ∧ VW (nts Λ dr k V a).1 := by
  intro k
  induction k with
  | zero => intro V a hw; exact ⟨rfl, hw⟩
  | succ k ih =>
    intro V a hw
    have w := night_W (dr := dr) hL hw
    have := ih (nightS V Λ dr).1 (a + (nightS V Λ dr).2) w.1
    exact ⟨this.1.trans w.2, this.2⟩
theorem ag_spent (a b : Int32) : Ag (fX10_spent a b) (fX11_spent a b) hL_spent :=
  ag_1 (a := a) (fun _ => rfl) (fun _ => rfl) (if_pos rfl) fun σ h Λ p hI hp ha => by
    subst ha
    refine agb_h (c := 2) hI rfl (fun _ => rfl) ((if_neg (by decide)).trans (if_pos rfl)) (by decide) fun n hn hb => ?_
    subst hb
    obtain ⟨σ1, g1, g2, g3, g4, g5, g6⟩ := c_try hI hn false (σ 86 12)
    rw [upd_self] at g2 g3 g4
    have g1' : fX10_tryNights (nI n) 0 (σ 5 12) σ = some σ1 := by rw [hI.1.1.2.2.2.2.2.2.2.2.2.2.1]; exact g1
    have x5 : fX8_of 5 (nI p) 3 σ1 = some (tr (σ 86) p 3) := c_of g6 hI.2.1 hp (k := 3) (by omega)
    have x8 : fX8_of 8 (nI p) 3 σ1 = some (tr (nts Λ false n (σ 86) 0).1 p 3) := c_of g2 g3 (by rw [g4]; exact hp) (k := 3) (by omega)
    refine agb_ro2 hI (x := tr (σ 86) p 3 - tr (nts Λ false n (σ 86) 0).1 p 3) (σ1 := σ1) (by rw [g1', Option.bind_some, x5, Option.bind_some, x8, Option.bind_some]) g5 fun τ iτ eτ => ?_
    obtain ⟨ρ, k1, k2, k3, k4⟩ := r_try iτ hn false
    obtain ⟨ρ', m1, m2, m3, m4, m5, m6⟩ := r_back k4
    rw [eτ] at k1 k2
    have k1' : fX11_goesOn (nI n) 1 (pn_ua τ 89 (cpy (τ 89) (σ 86) 0 317)) = some ((nts Λ false n (σ 86) 0).2, ρ) := k1
    have y5 : fX11_of (nI p) 3 τ = some (tr (σ 86) p 3) := rof iτ eτ hp (k := 3) (by omega)
    have y8 : fX11_of (nI p) 3 ρ = some (tr (nts Λ false n (σ 86) 0).1 p 3) := rof' k2 g3 (by rw [g4]; exact hp) (k := 3) (by omega)
    exact ⟨ρ', by rw [y5, Option.bind_some, r_keeps, Option.bind_some, eτ, k1', bi_some, y8, Option.bind_some, m1, Option.bind_some], m2, m3, m4⟩
theorem ag_calm (b : Int32) : Ag (fX10_calm b) (fX11_calm b) hL_calm :=
  ag_h (a := b) (fun _ => rfl) (fun _ => rfl) (if_pos rfl) fun σ h Λ n hI hn hb => by
    subst hb
    have h8 := hI.2.1.n.2
    have e4 : σ 5 4 = σ 86 5 := hI.1.1.2.2.1
    rcases hI.2.1.tg with q | ⟨t, ht, q⟩
    · refine agb_ro hI (x := 0) (σ1 := σ) (by rw [e4, if_pos q]) Core.rf fun τ iτ eτ => ⟨τ, ?_, FrR.rf⟩
      unfold fX11_hasTarget
      rw [eτ, if_pos q, Option.bind_some, if_pos rfl]
    · obtain ⟨σ1, g1, g2, g3, g4, g5, g6⟩ := c_try hI hn false (σ 86 12)
      rw [upd_self] at g2 g3 g4
      have g1' : fX10_tryNights (nI n) 0 (σ 5 12) σ = some σ1 := by rw [hI.1.1.2.2.2.2.2.2.2.2.2.2.1]; exact g1
      have x8 : fX8_of 8 (nI t) 2 σ1 = some (tr (nts Λ false n (σ 86) 0).1 t 2) := c_of g2 g3 (by rw [g4]; exact ht) (k := 2) (by omega)
      refine agb_ro2 hI (x := tr (nts Λ false n (σ 86) 0).1 t 2) (σ1 := σ1) (by rw [e4, if_neg (by rw [q]; exact nI_m1 (by omega)), g1', Option.bind_some, g6.1.2.2.1, q, x8, Option.bind_some]) g5 fun τ iτ eτ => ?_
      obtain ⟨ρ, k1, k2, k3, k4⟩ := r_try iτ hn false
      obtain ⟨ρ', m1, m2, m3, m4, m5, m6⟩ := r_back k4
      rw [eτ] at k1 k2
      have k1' : fX11_goesOn (nI n) 1 (pn_ua τ 89 (cpy (τ 89) (σ 86) 0 317)) = some ((nts Λ false n (σ 86) 0).2, ρ) := k1
      have y8 : fX11_of (nI t) 2 ρ = some (tr (nts Λ false n (σ 86) 0).1 t 2) := rof' k2 g3 (by rw [g4]; exact ht) (k := 2) (by omega)
      refine ⟨ρ', ?_, m2, m3, m4⟩
      unfold fX11_hasTarget
      rw [eτ, if_neg (by rw [q]; exact nI_m1 (by omega)), Option.bind_some, if_neg (by decide), r_keeps, Option.bind_some, eτ, k1', bi_some, q, y8, Option.bind_some, m1, Option.bind_some]
theorem ag_trial (b w : Int32) : Ag (fX10_trial b w) (fX11_trial b w) hL_trial :=
  ag_h (a := b) (fun _ => rfl) (fun _ => rfl) (if_pos rfl) fun σ h Λ n hI hn hb => by
    subst hb
    obtain ⟨σ1, g1, g2, g3, g4, g5, g6⟩ := c_try hI hn true (σ 86 12)
    rw [upd_self] at g2 g3 g4
    have g1' : fX10_tryNights (nI n) 1 (σ 5 12) σ = some σ1 := by rw [hI.1.1.2.2.2.2.2.2.2.2.2.2.1]; exact g1
    refine agb_ro2 hI (x := if w = 0 then vpur (nts Λ true n (σ 86) 0).1 else (nts Λ true n (σ 86) 0).1 5) (σ1 := σ1) ?_ g5 fun τ iτ eτ => ?_
    · rw [g1', Option.bind_some, c_pur g2 g3, Option.bind_some, g2.1.2.2.1]
      split <;> rfl
    · obtain ⟨ρ, k1, k2, k3, k4⟩ := r_try iτ hn true
      obtain ⟨ρ', m1, m2, m3, m4, m5, m6⟩ := r_back k4
      rw [eτ] at k1 k2
      have k1' : fX11_goesOn (nI n) 0 (pn_ua τ 89 (cpy (τ 89) (σ 86) 0 317)) = some ((nts Λ true n (σ 86) 0).2, ρ) := k1
      refine ⟨ρ', ?_, m2, m3, m4⟩
      rw [r_keeps, Option.bind_some, eτ, k1', bi_some, r_pur k3, Option.bind_some, k2]
      unfold fX11_trial_47
      rw [m1, Option.bind_some]
      split <;> rfl
/-! spans -/
def spn (Λ : pn_La) (n : Nat) (V : pn_V) (s : Int32) : Int32 := vpur (nts Λ true n (upd V 12 s) 0).1
theorem pur_pos {V : pn_V} (hw : VW V) : 0 ≤ (vpur V).toInt := by
  have hn := hw.n.2
  have key : ∀ k, k ≤ vn V → 0 ≤ (fo (fun p acc => acc + tr V p 3) 0 k 0).toInt ∧ (fo (fun p acc => acc + tr V p 3) 0 k 0).toInt ≤ 9999 * k := by
    intro k
    induction k with
    | zero => intro _; exact ⟨by show (0 : Int) ≤ 0; omega, by show (0 : Int) ≤ _; omega⟩
    | succ k ih =>
      intro hk
      obtain ⟨a, b⟩ := ih (by omega)
      have r : rg (tr V k 3) 0 9999 := (hw.p (p := k) (by omega)).2.2.2.1
      have r1 := r.1
      have r2 := r.2
      rw [fo_s]
      show 0 ≤ (_ + tr V k 3).toInt ∧ (_ + tr V k 3).toInt ≤ _
      rw [q_add (by omega) (by omega)]
      exact ⟨by omega, by omega⟩
  exact (key (vn V) (Nat.le_refl _)).1
def mm (w a b : Int32) : Int32 := if w = 0 then (if b < a then b else a) else (if a < b then b else a)
theorem mm_pos {w a b : Int32} (ha : 0 ≤ a.toInt) (hb : 0 ≤ b.toInt) : 0 ≤ (mm w a b).toInt := by
  unfold mm
  split <;> split <;> assumption
theorem spn_pos {Λ : pn_La} {n : Nat} {V : pn_V} (hL : LW Λ) (hw : VW V) (s : Int32) : 0 ≤ (spn Λ n V s).toInt := pur_pos (nts_vn hL n _ 0 (seed_W hw s)).2
theorem ag_span (b w : Int32) : Ag (fX10_span b w) (fX11_span b w) hL_span :=
  ag_h (a := b) (fun _ => rfl) (fun _ => rfl) (if_pos rfl) fun σ h Λ n hI hn hb => by
    subst hb
    have hL := hI.2.2.2.2.1
    have e0 : (0 : Int32).toInt = 0 := rfl
    obtain ⟨σ1, g1, g2, g3, g4, g5, g6⟩ := c_try hI hn true 1
    have g1' : fX10_tryNights (nI n) 1 1 σ = some σ1 := g1
    obtain ⟨s, j1, j2, j3⟩ := lpE (n := 5) (F := fun f i (s : Int32 × pn_S) => fX10_span_25 f (nI n) w s.1 (nI (i + 2)) s.2) (out := fun s => some (.inl s.1, s.2)) (fun i s => s.1 = fo (fun i acc => mm w acc (spn Λ n (σ 86) (nI (i + 2)))) 0 i (spn Λ n (σ 86) 1) ∧ Core σ s.2)
      (fun f s _ => by rw [fX10_span_25, if_pos (show (6 : Int32) < nI (5 + 2) by decide)])
      (fun f i s hi hs => by
        obtain ⟨acc, ρ⟩ := s
        obtain ⟨h1, h2⟩ : acc = fo (fun i acc => mm w acc (spn Λ n (σ 86) (nI (i + 2)))) 0 i (spn Λ n (σ 86) 1) ∧ Core σ ρ := hs
        obtain ⟨σ5, k1, k2, k3, k4, k5, k6⟩ := c_try (hI.core h2) hn true (nI (i + 2))
        rw [h2.w] at k2 k3
        have k1' : fX10_tryNights (nI n) 1 (nI (i + 2)) ρ = some σ5 := k1
        refine ⟨(mm w acc (spn Λ n (σ 86) (nI (i + 2))), σ5), ?_, by rw [fo_s, ← h1], h2.tr k5⟩
        show fX10_span_25 (f + 1) (nI n) w acc (nI (i + 2)) ρ = _
        rw [fX10_span_25, if_neg (show ¬ (6 : Int32) < nI (i + 2) from nlt_nI (a := 6) (by omega) (by omega)), k1', Option.bind_some, c_pur k2 k3, Option.bind_some, nI_1, jmin, Option.bind_some, jmax, Option.bind_some]
        unfold mm spn
        split <;> rfl) 5 0 5000 (spn Λ n (σ 86) 1, σ1) (by omega) (by omega) ⟨rfl, g5⟩
    refine agb_ro2 hI (x := s.1) (σ1 := s.2) ?_ j3 fun τ iτ eτ => ?_
    · rw [g1', Option.bind_some, c_pur g2 g3, Option.bind_some]
      exact j1
    · have step : ∀ (f i : Nat) (acc : Int32) (ρ : pn_S), i ≤ 6 → ρ 86 = σ 86 → Kept τ ρ → ∃ ρ', fX11_span_28 (f + 1) (nI n) w acc (nI i) ρ = fX11_span_28 f (nI n) w (if 0 ≤ acc then mm w acc (spn Λ n (σ 86) (nI i)) else spn Λ n (σ 86) (nI i)) (nI (i + 1)) ρ' ∧ ρ' 86 = σ 86 ∧ Kept τ ρ' ∧ Core τ ρ' ∧ ρ' 85 0 = τ 85 0 ∧ ρ' 96 = τ 96 := fun f i acc ρ hi h86 hk => by
        have u86 : pn_up ρ 86 12 (nI i) 86 = upd (σ 86) 12 (nI i) := by rw [pn_up_row, h86]
        obtain ⟨ρ1, k1, k2, k3, k4, k5⟩ := r_goes (ρ := pn_up ρ 86 12 (nI i)) (h := h) (Λ := Λ) hn (by rw [u86]; exact seed_W hI.2.1 _) (by rw [u86]; exact rl_V hI.2.2.2.1 (Kp_up (by omega))) hL true
        rw [u86] at k1 k2
        have k1' : fX11_goesOn (nI n) 0 (pn_up ρ 86 12 (nI i)) = some ((nts Λ true n (upd (σ 86) 12 (nI i)) 0).2, ρ1) := k1
        have hk1 : Kept τ (pn_up ρ 86 12 (nI i)) := by
          obtain ⟨a, b, c, d⟩ := hk
          exact ⟨fun k q => by rw [pn_up_a _ _ _ _ (by omega)]; exact a k q, fun k q => by rw [pn_up_k _ _ _ _ (by omega)]; exact b k q, fun i q1 q2 q3 q4 q5 q6 => by rw [pn_up_a _ _ _ _ q2]; exact c i q1 q2 q3 q4 q5 q6, fun k q => by rw [pn_up_a _ _ _ _ (by omega)]; exact d k q⟩
        obtain ⟨ρ', m1, m2, m3, m4, m5, m6⟩ := r_back (kept_N hk1 k5 k4)
        refine ⟨ρ', ?_, m5.trans eτ, m6, m2, m3, m4⟩
        rw [fX11_span_28, if_neg (show ¬ (6 : Int32) < nI i from nlt_nI (a := 6) (by omega) (by omega)), k1', bi_some, r_pur k3, Option.bind_some, m1, Option.bind_some, k2, nI_1, jmin, Option.bind_some, jmax, Option.bind_some]
        unfold mm spn
        split
        · split <;> rfl
        · rfl
      have k0 := kept_0 τ
      obtain ⟨ρ1, a1, a2, a3, a4, a5, a6⟩ := step 4999 1 (-1) _ (by omega) ((pn_ua_a _ _ _ (by omega)).trans eτ) k0
      rw [if_neg (by decide)] at a1
      obtain ⟨s', m1, m2, m3, m4, m5, m6, m7, m8⟩ := lpE (n := 5) (F := fun f i (s : Int32 × pn_S) => fX11_span_28 f (nI n) w s.1 (nI (i + 2)) s.2) (out := fun s => some (s.1, s.2)) (fun i s => s.1 = fo (fun i acc => mm w acc (spn Λ n (σ 86) (nI (i + 2)))) 0 i (spn Λ n (σ 86) 1) ∧ 0 ≤ s.1.toInt ∧ s.2 86 = σ 86 ∧ Kept τ s.2 ∧ Core τ s.2 ∧ s.2 85 0 = τ 85 0 ∧ s.2 96 = τ 96)
        (fun f s _ => by rw [fX11_span_28, if_pos (show (6 : Int32) < nI (5 + 2) by decide)])
        (fun f i s hi hs => by
          obtain ⟨acc, ρ⟩ := s
          obtain ⟨h1, h2, h3, h4, h5, h6, h7⟩ := hs
          obtain ⟨ρ', b1, b2, b3, b4, b5, b6⟩ := step f (i + 2) acc ρ (by omega) h3 h4
          rw [if_pos (show (0 : Int32) ≤ acc by rw [q_le]; exact h2)] at b1
          exact ⟨(mm w acc (spn Λ n (σ 86) (nI (i + 2))), ρ'), b1, by rw [fo_s, ← h1], mm_pos h2 (spn_pos hL hI.2.1 _), b2, b3, b4, b5, b6⟩) 5 0 4999 (spn Λ n (σ 86) 1, ρ1) (by omega) (by omega) ⟨rfl, spn_pos hL hI.2.1 _, a2, a3, a4, a5, a6⟩
      refine ⟨s'.2, ?_, m6, m7, m8⟩
      rw [r_keeps, Option.bind_some, j2, ← m2]
      exact a1.trans m1
/-! the end -/
def enR (Λ : pn_La) : Nat → Nat → pn_V → Int32
  | 0, _, _ => -1
  | k + 1, i, V => if (nightS V Λ false).1 5 = -1 then nI i else enR Λ k (i + 1) (nightS V Λ false).1
theorem c_ends {h0 : Bool} {Λ : pn_La} (hL : LW Λ) : ∀ (k i f : Nat) (σ : pn_S) (V : pn_V), i + k = 61 → k < f → CV σ 8 V → VW V → CL σ 14 h0 Λ → ∃ σ', fX10_ends_26 f (nI i) σ = some (enR Λ k i V, σ') ∧ FrN 8 σ σ' := by
  intro k
  induction k with
  | zero =>
    intro i f σ V hi hf h hw hC
    match f, hf with
    | f + 1, _ =>
      have e : i = 61 := by omega
      subst e
      exact ⟨σ, by rw [fX10_ends_26, if_pos (show (60 : Int32) < nI 61 by decide)]; rfl, FrN.rf⟩
  | succ k ih =>
    intro i f σ V hi hf h hw hC
    match f, hf with
    | f + 1, hf =>
      obtain ⟨σ1, g1, g2, g3, g4, g5⟩ := c_night (dr := false) (by omega) h hw hC hL
      have g1' : fX10_passNight 8 0 σ = some ((nightS V Λ false).2, σ1) := g1
      rw [fX10_ends_26, if_neg (show ¬ (60 : Int32) < nI i from nlt_nI (a := 60) (by omega) (by omega)), g1', bi_some, g2.1.2.2.1, enR]
      by_cases q : (nightS V Λ false).1 5 = -1
      · rw [if_pos q, if_pos q]
        exact ⟨σ1, rfl, g5⟩
      · rw [if_neg q, if_neg q, nI_1]
        obtain ⟨σ', k1, k2⟩ := ih (i + 1) f σ1 _ (by omega) (by omega) g2 g3 (cl_N (by omega) hC g5)
        exact ⟨σ', k1, g5.tr k2⟩
theorem r_ends {h0 : Bool} {Λ : pn_La} (hL : LW Λ) : ∀ (k i f : Nat) (ρ : pn_S), i + k = 61 → 1 ≤ i → k + 1 < f → VW (ρ 86) → RLa (ρ 86) h0 Λ → ∃ ρ', fX11_ends_22 f (-1) (nI i) ρ = fX11_ends_58 (enR Λ k i (ρ 86)) ρ' ∧ Kp (ρ' 86) (ρ 86) ∧ FrRN ρ ρ' := by
  intro k
  induction k with
  | zero =>
    intro i f ρ hi h1 hf hw hR
    match f, hf with
    | f + 1, _ =>
      have e : i = 61 := by omega
      subst e
      exact ⟨ρ, by rw [fX11_ends_22, if_pos (show (60 : Int32) < nI 61 by decide)]; rfl, Kp.rf, FrRN.rf⟩
  | succ k ih =>
    intro i f ρ hi h1 hf hw hR
    match f, hf with
    | f + 1 + 1, hf =>
      obtain ⟨ρ1, g1, g2, g3⟩ := r_night (dr := false) hw hR hL
      have g1' : fX11_oneNight 1 ρ = some ((nightS (ρ 86) Λ false).2, ρ1) := g1
      have kp : Kp (ρ1 86) (ρ 86) := by rw [g2]; exact Kp_night hw
      rw [fX11_ends_22, if_neg (show ¬ (60 : Int32) < nI i from nlt_nI (a := 60) (by omega) (by omega)), if_pos rfl, g1', bi_some, enR, nI_1]
      unfold fX11_hasTarget
      rw [g2]
      by_cases q : (nightS (ρ 86) Λ false).1 5 = -1
      · rw [if_pos q, if_pos q, Option.bind_some, if_pos rfl, fX11_ends_22]
        refine ⟨ρ1, ?_, kp, g3⟩
        have ne : ¬ nI i = -1 := fun z => by
          have := congrArg Int32.toInt z
          rw [nI_toInt (by omega)] at this
          have e1 : (-1 : Int32).toInt = -1 := rfl
          omega
        by_cases z : (60 : Int32) < nI (i + 1)
        · rw [if_pos z]
        · rw [if_neg z, if_neg ne]
      · rw [if_neg q, if_neg q, Option.bind_some, if_neg (by decide)]
        obtain ⟨ρ', k1, k2, k3⟩ := ih (i + 1) (f + 1) ρ1 (by omega) (by omega) (by omega) (by rw [g2]; exact (night_W hL hw).1) (rl_V hR kp)
        rw [g2] at k1
        exact ⟨ρ', k1, k2.tr kp, g3.tr k3⟩
theorem ag_ends : AgI fX10_ends fX11_ends := agi_ro fun σ h Λ hI => by
  have h8 := hI.2.1.n.2
  have e4 : σ 5 4 = σ 86 5 := hI.1.1.2.2.1
  rcases hI.2.1.tg with q | ⟨t, ht, q⟩
  · refine ⟨-1, σ, by unfold fX10_ends; rw [e4, if_pos q], Core.rf, fun τ iτ eτ => ⟨pn_up τ 85 0 0, ?_, Core_thrown⟩⟩
    unfold fX11_ends fX11_hasTarget
    rw [w85, eτ, if_pos q, Option.bind_some, if_pos rfl]
  · have ne : ¬ σ 86 5 = -1 := by rw [q]; exact nI_m1 (by omega)
    obtain ⟨c1, c2, c3⟩ := c_copy (v := 8) hI.1 hI.2.1 (by omega)
    have k0 : Core σ (cpV σ 8 5) := Core_fr (c3.mono fun i hi => by unfold scr; omega)
    obtain ⟨σ', g1, g2⟩ := c_ends hI.2.2.2.2.1 60 1 5000 (cpV σ 8 5) (σ 86) (by omega) (by omega) c2 hI.2.1 (hI.core k0).2.2.1
    refine ⟨enR Λ 60 1 (σ 86), σ', ?_, k0.tr (Core_N8 g2), fun τ iτ eτ => ?_⟩
    · unfold fX10_ends
      rw [e4, if_neg ne, c1, Option.bind_some]
      exact g1
    · have i0 := iτ.core (Core_thrown (x := 0))
      have e0 : pn_up τ 85 0 0 86 = σ 86 := (w85 _ _).trans eτ
      have e1 : pn_ua (pn_up τ 85 0 0) 89 (cpy (pn_up τ 85 0 0 89) (pn_up τ 85 0 0 86) 0 317) 86 = σ 86 := (pn_ua_a _ _ _ (by omega)).trans e0
      obtain ⟨ρ, k1, k2, k3⟩ := r_ends (h0 := h) hI.2.2.2.2.1 60 1 5000 (pn_ua (pn_up τ 85 0 0) 89 (cpy (pn_up τ 85 0 0 89) (pn_up τ 85 0 0 86) 0 317)) (by omega) (by omega) (by omega) (by rw [e1]; exact hI.2.1) (by rw [e1]; exact hI.2.2.2.1)
      obtain ⟨ρ', m1, m2, m3, m4, m5, m6⟩ := r_back (kept_N (kept_0 (pn_up τ 85 0 0)) k3 k2)
      rw [e1] at k1
      refine ⟨ρ', ?_, Core_thrown.tr m2⟩
      unfold fX11_ends
      have ht' : fX11_hasTarget (pn_up τ 85 0 0) = some 1 := by unfold fX11_hasTarget; rw [e0, if_neg ne]
      rw [ht', Option.bind_some, if_neg (by decide), r_keeps, Option.bind_some]
      refine k1.trans ?_
      unfold fX11_ends_58
      rw [m1, Option.bind_some]
