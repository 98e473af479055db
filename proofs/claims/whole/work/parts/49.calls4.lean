/-! PURE: the brave, rings, the alike, feuds -/
def oN : Option Nat → Int32
  | none => -1
  | some q => nI q
def brS (V : pn_V) (Λ : pn_La) (t p : Nat) (o : Option Nat) : Option Nat := if p = t then o else match o with
  | none => some p
  | some q => if needs V Λ t q ≤ needs V Λ t p then some q else some p
def brv (V : pn_V) (Λ : pn_La) (t n : Nat) : Option Nat := fo (brS V Λ t) 0 n none
theorem brv_in {V : pn_V} {Λ : pn_La} {t : Nat} : ∀ n q, brv V Λ t n = some q → q < n ∧ q ≠ t := by
  intro n
  induction n with
  | zero => intro q h; cases h
  | succ n ih =>
    intro q h
    have e : brv V Λ t (n + 1) = brS V Λ t n (brv V Λ t n) := fo_s _ _ _
    rw [e] at h
    unfold brS at h
    by_cases hn : n = t
    · rw [if_pos hn] at h
      have := ih q h
      exact ⟨by omega, this.2⟩
    · rw [if_neg hn] at h
      cases hb : brv V Λ t n with
      | none => rw [hb] at h; cases h; exact ⟨by omega, hn⟩
      | some r =>
        rw [hb] at h
        have hr := ih r hb
        have h : (if needs V Λ t r ≤ needs V Λ t n then some r else some n) = some q := h
        split at h <;> cases h
        · exact ⟨by omega, hr.2⟩
        · exact ⟨by omega, hn⟩
theorem brv_s (V : pn_V) (Λ : pn_La) (t p : Nat) : brv V Λ t (p + 1) = brS V Λ t p (brv V Λ t p) := fo_s _ _ _
theorem ag_brave (a : Int32) : Ag (fX10_brave a) (fX11_brave a) hL_brave :=
  ag_1 (a := a) (fun _ => rfl) (fun _ => rfl) (if_pos rfl) fun σ h Λ t hI ht ha => by
    subst ha
    have hn := hI.2.1.n
    obtain ⟨σ1, g1, g2, g3⟩ := c_invite hI.1 hI.2.1 hI.2.2.1 hI.2.2.2.2.1 (by omega) ht
    have e : σ1 5 2 = nI (vn (σ 86)) := by rw [(cv_C hI.1 g3 (by omega)).1.1, hn.1]
    obtain ⟨s, j1, j2⟩ := lpE (n := vn (σ 86)) (F := fun f p (o : Option Nat) => fX10_brave_25 f (nI t) (oN o) (nI p) σ1) (out := fun o => some (.inl (oN o), σ1)) (fun p o => o = brv (σ 86) Λ t p)
      (fun f s _ => by rw [fX10_brave_25, e, if_pos (nI_le (by omega) (by omega))])
      (fun f p o hp ho => by
        refine ⟨brS (σ 86) Λ t p o, ?_, by rw [brv_s, ← ho]⟩
        rw [fX10_brave_25, e, if_neg (nI_ge (by omega) (by omega)), nI_1]
        unfold brS
        by_cases q : p = t
        · rw [if_pos (by rw [q]), if_pos q]
        · rw [if_neg (fun z => q ((nI_eq (by omega) (by omega)).mp z)), if_neg q]
          cases o with
          | none => rw [if_pos (show oN none = -1 from rfl)]; rfl
          | some r =>
            have hr := brv_in p r ho.symm
            rw [if_neg (show ¬ oN (some r) = -1 from nI_m1 (by omega)), c_needsOf (by omega), Option.bind_some, show oN (some r) = nI r from rfl, c_needsOf (by omega), Option.bind_some, (g2.2 p hp q).1, (g2.2 r (by omega) hr.2).1]
            show _ = fX10_brave_25 f (nI t) (oN (if needs (σ 86) Λ t r ≤ needs (σ 86) Λ t p then some r else some p)) (nI (p + 1)) σ1
            split <;> rfl) (vn (σ 86)) 0 5000 none (by omega) (by omega) rfl
    refine agb_ro hI (x := oN (brv (σ 86) Λ t (vn (σ 86)))) (σ1 := σ1) (by rw [g1, Option.bind_some, ← j2]; exact j1) (Core_C g3) fun τ iτ eτ => ?_
    obtain ⟨s', m1, m2, m3⟩ := lpE (n := vn (σ 86)) (F := fun f p (s : Option Nat × pn_S) => fX11_brave_24 f (nI t) (oN s.1) (nI p) s.2) (out := fun s => some (oN s.1, s.2)) (fun p s => s.1 = brv (σ 86) Λ t p ∧ FrR τ s.2)
      (fun f s hs => by rw [fX11_brave_24, rpe (iτ.core (Core_R hs.2)) (hs.2.w.trans eτ), Option.bind_some, if_pos (nI_le (by omega) (by omega))])
      (fun f p s hp hs => by
        obtain ⟨o, ρ⟩ := s
        obtain ⟨ho, hf⟩ : o = brv (σ 86) Λ t p ∧ FrR τ ρ := hs
        have iI := iτ.core (Core_R hf)
        have e86 : ρ 86 = σ 86 := hf.w.trans eτ
        by_cases q : p = t
        · refine ⟨(brS (σ 86) Λ t p o, ρ), ?_, by rw [brv_s, ← ho], hf⟩
          rw [fX11_brave_24, rpe iI e86, Option.bind_some, if_neg (nI_ge (by omega) (by omega)), nI_1]
          unfold brS
          rw [if_pos (by rw [q]), if_pos q]
        · cases o with
          | none =>
            refine ⟨(brS (σ 86) Λ t p none, ρ), ?_, by rw [brv_s, ← ho], hf⟩
            rw [fX11_brave_24, rpe iI e86, Option.bind_some, if_neg (nI_ge (by omega) (by omega)), nI_1]
            unfold brS
            rw [if_neg (fun z => q ((nI_eq (by omega) (by omega)).mp z)), if_neg q, if_pos (show oN none = -1 from rfl)]
            rfl
          | some r =>
            have hr := brv_in p r ho.symm
            obtain ⟨r1, k1⟩ := r_needs' (σ := ρ) (p := p) (t := t) iI.2.1 (by rw [e86]; exact hp) (by rw [e86]; exact ht) iI.2.2.2.1 iI.2.2.2.2.1
            have f1 : FrR ρ (pn_ua ρ 93 r1) := FrR_ua (Or.inl rfl)
            have i1 := iI.core (Core_R f1)
            have e1 := f1.w.trans e86
            obtain ⟨r2, k2⟩ := r_needs' (σ := pn_ua ρ 93 r1) (p := r) (t := t) i1.2.1 (by rw [e1]; omega) (by rw [e1]; exact ht) i1.2.2.2.1 i1.2.2.2.2.1
            have f2 : FrR (pn_ua ρ 93 r1) (pn_ua (pn_ua ρ 93 r1) 93 r2) := FrR_ua (Or.inl rfl)
            rw [e1] at k2
            rw [e86] at k1
            refine ⟨(brS (σ 86) Λ t p (some r), pn_ua (pn_ua ρ 93 r1) 93 r2), ?_, by rw [brv_s, ← ho], (hf.tr f1).tr f2⟩
            rw [fX11_brave_24, rpe iI e86, Option.bind_some, if_neg (nI_ge (by omega) (by omega)), nI_1, if_neg (fun z => q ((nI_eq (by omega) (by omega)).mp z)), if_neg (show ¬ oN (some r) = -1 from nI_m1 (by omega)), k1, bi_some, show oN (some r) = nI r from rfl, k2, bi_some]
            unfold brS
            rw [if_neg q]
            show _ = fX11_brave_24 f (nI t) (oN (if needs (σ 86) Λ t r ≤ needs (σ 86) Λ t p then some r else some p)) (nI (p + 1)) _
            split <;> rfl) (vn (σ 86)) 0 5000 (none, τ) (by omega) (by omega) ⟨rfl, FrR.rf⟩
    refine ⟨s'.2, ?_, m3⟩
    rw [← m2]
    exact m1
/-! rings -/
theorem VW.fd {V : pn_V} (h : VW V) {p : Nat} (hp : p < vn V) : tr V p 5 = -1 ∨ ∃ q, q < vn V ∧ tr V p 5 = nI q := by
  have a5 := (h.p hp).2.2.2.2.2.1
  have r1 := a5.1
  have r2 := a5.2
  by_cases q : (tr V p 5).toInt = -1
  · exact Or.inl (q_eq.mpr q)
  · obtain ⟨k, hk, e⟩ := rg_k (a := tr V p 5) (n := vn V) (by omega) (by omega)
    exact Or.inr ⟨k, hk, e⟩
theorem ring_both {σ τ : pn_S} {h : Bool} {Λ : pn_La} {V : pn_V} {p : Nat} (hC : CV σ 5 V) (hw : VW V) (iτ : Inv τ h Λ) (eτ : τ 86 = V) : ∀ (k i f : Nat) (x : Int32), i + k = 8 → k < f → (x = -1 ∨ ∃ q, q < vn V ∧ x = nI q) → ∃ z, fX10_ring_17 f (nI p) x (nI i) σ = some (.inl z, σ) ∧ fX11_ring_29 f (nI p) x (nI i) τ = some (z, τ) := by
  have last : ∀ x, ∃ z, fX10_ring_49 (nI p) x σ = some (.inl z, σ) ∧ fX11_ring_58 (nI p) x τ = some (z, τ) := fun x => by
    unfold fX10_ring_49 fX11_ring_58
    by_cases q : x = nI p
    · exact ⟨1, if_pos q, if_pos q⟩
    · exact ⟨0, if_neg q, if_neg q⟩
  intro k
  induction k with
  | zero =>
    intro i f x hi hf hx
    match f, hf with
    | f + 1, _ =>
      have hi : i = 8 := by omega
      subst hi
      rw [fX10_ring_17, fX11_ring_29, if_pos (show (8 : Int32) ≤ nI 8 by decide), if_pos (show (8 : Int32) ≤ nI 8 by decide)]
      exact last x
  | succ k ih =>
    intro i f x hi hf hx
    match f, hf with
    | f + 1, hf =>
      rw [fX10_ring_17, fX11_ring_29, if_neg (show ¬ (8 : Int32) ≤ nI i from nI_ge (b := 8) (by omega) (by omega)), if_neg (show ¬ (8 : Int32) ≤ nI i from nI_ge (b := 8) (by omega) (by omega))]
      by_cases q1 : x = -1
      · rw [if_pos q1, if_pos q1]; exact last x
      · by_cases q2 : x = nI p
        · rw [if_neg q1, if_neg q1, if_pos q2, if_pos q2]; exact last x
        · rcases hx with hx | ⟨r, hr, hx⟩
          · exact absurd hx q1
          · have g : fX8_of 5 (nI r) 5 σ = some (tr V r 5) := c_of hC hw hr (k := 5) (by omega)
            have g' : fX11_of (nI r) 5 τ = some (tr V r 5) := rof iτ eτ hr (k := 5) (by omega)
            rw [if_neg q1, if_neg q1, if_neg q2, if_neg q2, hx, g, g', Option.bind_some, Option.bind_some, nI_1]
            exact ih (i + 1) f _ (by omega) (by omega) (hw.fd hr)
theorem ag_ring (a : Int32) : Ag (fX10_ring a) (fX11_ring a) hL_ring :=
  ag_1 (a := a) (fun _ => rfl) (fun _ => rfl) (if_pos rfl) fun σ h Λ p hI hp ha => by
    subst ha
    have g : fX8_of 5 (nI p) 5 σ = some (tr (σ 86) p 5) := c_of hI.1 hI.2.1 hp (k := 5) (by omega)
    have K : ∀ τ, Inv τ h Λ → τ 86 = σ 86 → ∃ z, fX10_ring_17 5000 (nI p) (tr (σ 86) p 5) 0 σ = some (.inl z, σ) ∧ fX11_ring_29 5000 (nI p) (tr (σ 86) p 5) 0 τ = some (z, τ) := fun τ iτ eτ => ring_both hI.1 hI.2.1 iτ eτ 8 0 5000 _ (by omega) (by omega) (hI.2.1.fd hp)
    obtain ⟨z, z1, z2⟩ := K σ hI rfl
    refine agb_ro hI (x := z) (σ1 := σ) (by rw [g, Option.bind_some, z1]) Core.rf fun τ iτ eτ => ⟨τ, ?_, FrR.rf⟩
    have g' : fX11_of (nI p) 5 τ = some (tr (σ 86) p 5) := rof iτ eτ hp (k := 5) (by omega)
    obtain ⟨z', y1, y2⟩ := K τ iτ eτ
    rw [z1] at y1
    cases y1
    rw [g', Option.bind_some, y2]
/-! two at a time -/
theorem fo_sh (g : Nat → Int32) : ∀ (k p : Nat) (a : Int32), fo (fun q acc => acc + g q) p k a = a + fo (fun q acc => acc + g q) p k 0 := fo_sum g
/-- those behind p, and those ahead of it -/
def behind (e : Nat → Nat → Int32) (n p : Nat) : Int32 := fo (fun q acc => acc + e p q) (p + 1) (n - (p + 1)) 0
def ahead (e : Nat → Nat → Int32) (p : Nat) : Int32 := fo (fun q acc => acc + e p q) 0 p 0
theorem tri (e : Nat → Nat → Int32) (hs : ∀ p q, e p q = e q p) : ∀ n, sm (behind e n) n = sm (ahead e) n := by
  intro n
  induction n with
  | zero => rfl
  | succ n ih =>
    have h1 : behind e (n + 1) n = 0 := by unfold behind; rw [show n + 1 - (n + 1) = 0 by omega]; rfl
    have h2 : sm (behind e (n + 1)) n = sm (fun p => behind e n p + e p n) n := sm_c fun p hp => by
      unfold behind
      rw [show n + 1 - (p + 1) = (n - (p + 1)) + 1 by omega, fo_last, show p + 1 + (n - (p + 1)) = n by omega]
    have h3 : ahead e n = sm (fun p => e p n) n := by
      unfold ahead sm
      refine fo_congr n 0 0 fun q _ _ b => ?_
      rw [hs]
    rw [sm_s, sm_s, h1, h2, sm_add, ih, h3]
    grind
def lik (V : pn_V) (p q : Nat) : Int32 := if tr V p 0 = tr V q 0 ∧ tr V p 1 = tr V q 1 ∧ tr V p 2 = tr V q 2 then 1 else 0
theorem lik_s (V : pn_V) (p q : Nat) : lik V p q = lik V q p := by
  unfold lik
  by_cases h : tr V p 0 = tr V q 0 ∧ tr V p 1 = tr V q 1 ∧ tr V p 2 = tr V q 2
  · rw [if_pos h, if_pos ⟨h.1.symm, h.2.1.symm, h.2.2.symm⟩]
  · rw [if_neg h, if_neg (fun z => h ⟨z.1.symm, z.2.1.symm, z.2.2.symm⟩)]
theorem c_lik {σ : pn_S} {V : pn_V} (h : CV σ 5 V) (hw : VW V) {p q : Nat} (hp : p < vn V) (hq : q < vn V) : fX10_areAlike (nI p) (nI q) σ = some (lik V p q) := by
  have a0 : fX8_of 5 (nI p) 0 σ = some (tr V p 0) := c_of h hw hp (k := 0) (by omega)
  have a1 : fX8_of 5 (nI p) 1 σ = some (tr V p 1) := c_of h hw hp (k := 1) (by omega)
  have a2 : fX8_of 5 (nI p) 2 σ = some (tr V p 2) := c_of h hw hp (k := 2) (by omega)
  have b0 : fX8_of 5 (nI q) 0 σ = some (tr V q 0) := c_of h hw hq (k := 0) (by omega)
  have b1 : fX8_of 5 (nI q) 1 σ = some (tr V q 1) := c_of h hw hq (k := 1) (by omega)
  have b2 : fX8_of 5 (nI q) 2 σ = some (tr V q 2) := c_of h hw hq (k := 2) (by omega)
  unfold fX10_areAlike lik
  rw [a0, b0, a1, b1, a2, b2]
  simp only [Option.bind_some]
  by_cases h0 : tr V p 0 = tr V q 0 <;> by_cases h1 : tr V p 1 = tr V q 1 <;> by_cases h2 : tr V p 2 = tr V q 2 <;> simp [h0, h1, h2]
theorem r_lik {σ : pn_S} {h : Bool} {Λ : pn_La} {V : pn_V} (hI : Inv σ h Λ) (e : σ 86 = V) {p q : Nat} (hp : p < vn V) (hq : q < vn V) : fX11_likens (nI p) (nI q) σ = some (lik V p q) := by
  have a0 : fX11_of (nI p) 0 σ = some (tr V p 0) := rof hI e hp (k := 0) (by omega)
  have a1 : fX11_of (nI p) 1 σ = some (tr V p 1) := rof hI e hp (k := 1) (by omega)
  have a2 : fX11_of (nI p) 2 σ = some (tr V p 2) := rof hI e hp (k := 2) (by omega)
  have b0 : fX11_of (nI q) 0 σ = some (tr V q 0) := rof hI e hq (k := 0) (by omega)
  have b1 : fX11_of (nI q) 1 σ = some (tr V q 1) := rof hI e hq (k := 1) (by omega)
  have b2 : fX11_of (nI q) 2 σ = some (tr V q 2) := rof hI e hq (k := 2) (by omega)
  unfold fX11_likens lik
  rw [a0, b0, a1, b1, a2, b2]
  simp only [Option.bind_some]
  by_cases h0 : tr V p 0 = tr V q 0 <;> by_cases h1 : tr V p 1 = tr V q 1 <;> by_cases h2 : tr V p 2 = tr V q 2 <;> simp [h0, h1, h2]
theorem lik01 (V : pn_V) (p q : Nat) : lik V p q = 0 ∨ lik V p q = 1 := by unfold lik; split <;> simp
theorem c_alike {σ : pn_S} {V : pn_V} (h : CV σ 5 V) (hw : VW V) : fX10_alike σ = some (sm (behind (lik V) (vn V)) (vn V)) := by
  have hn := hw.n
  have e : σ 5 2 = nI (vn V) := by rw [h.1.1, hn.1]
  obtain ⟨s, g1, g2⟩ := lpE (n := vn V) (F := fun f p acc => fX10_alike_4 f acc (nI p) σ) (out := fun s => some s) (fun p s => s = sm (behind (lik V) (vn V)) p)
    (fun f s _ => by rw [fX10_alike_4, e, if_pos (nI_le (by omega) (by omega))])
    (fun f p s hp hs => by
      refine ⟨s + behind (lik V) (vn V) p, ?_, by rw [sm_s, ← hs]⟩
      rw [fX10_alike_4, e, if_neg (nI_ge (by omega) (by omega)), nI_1]
      obtain ⟨n, k1, k2⟩ := lpE (n := vn V - (p + 1)) (F := fun f' j acc => fX10_alike_19 (fX10_alike_4 f) f' acc (nI p) (nI (p + 1 + j)) σ) (out := fun n => fX10_alike_4 f n (nI (p + 1)) σ) (fun j acc => acc = fo (fun q acc => acc + lik V p q) (p + 1) j s)
        (fun f' n _ => by rw [fX10_alike_19, e, if_pos (nI_le (by omega) (by omega)), nI_1])
        (fun f' j acc hj ha => by
          refine ⟨acc + lik V p (p + 1 + j), ?_, by rw [fo_last, ← ha]⟩
          rw [fX10_alike_19, e, if_neg (nI_ge (by omega) (by omega)), c_lik h hw hp (by omega), Option.bind_some, nI_1]
          rcases lik01 V p (p + 1 + j) with z | z
          · rw [z, if_pos rfl, Int32.add_zero]; rfl
          · rw [z, if_neg (by decide)]; rfl) (vn V - (p + 1)) 0 5000 s (by omega) (by omega) rfl
      refine k1.trans ?_
      rw [k2, fo_sum]
      rfl) (vn V) 0 5000 0 (by omega) (by omega) rfl
  unfold fX10_alike
  refine g1.trans ?_
  rw [g2]
theorem r_alike {σ : pn_S} {h : Bool} {Λ : pn_La} {V : pn_V} (hI : Inv σ h Λ) (he : σ 86 = V) : fX11_alike_9 5000 0 0 σ = some (sm (ahead (lik V)) (vn V), σ) := by
  have hn : vn V ≤ 8 := by rw [← he]; exact hI.2.1.n.2
  obtain ⟨s, g1, g2⟩ := lpE (n := vn V) (F := fun f p acc => fX11_alike_9 f acc (nI p) σ) (out := fun s => some (s, σ)) (fun p s => s = sm (ahead (lik V)) p)
    (fun f s _ => by rw [fX11_alike_9, rpe hI he, Option.bind_some, if_pos (nI_le (by omega) (by omega))])
    (fun f p s hp hs => by
      refine ⟨s + ahead (lik V) p, ?_, by rw [sm_s, ← hs]⟩
      rw [fX11_alike_9, rpe hI he, Option.bind_some, if_neg (nI_ge (by omega) (by omega))]
      obtain ⟨n, k1, k2⟩ := lpE (n := p) (F := fun f' j acc => fX11_alike_19 (fX11_alike_9 f) f' acc (nI p) (nI j) σ) (out := fun n => fX11_alike_9 f n (nI (p + 1)) σ) (fun j acc => acc = fo (fun q acc => acc + lik V p q) 0 j s)
        (fun f' n _ => by rw [fX11_alike_19, if_pos (nI_le (by omega) (by omega)), nI_1])
        (fun f' j acc hj ha => by
          refine ⟨acc + lik V p j, ?_, by rw [fo_s, ← ha]⟩
          rw [fX11_alike_19, if_neg (nI_ge (by omega) (by omega)), r_lik hI he hp (by omega), Option.bind_some, nI_1]
          rcases lik01 V p j with z | z
          · rw [z, if_pos rfl]
          · rw [z, if_neg (by decide)]) p 0 5000 s (by omega) (by omega) rfl
      refine k1.trans ?_
      rw [k2, fo_sum]
      rfl) (vn V) 0 5000 0 (by omega) (by omega) rfl
  refine g1.trans ?_
  rw [g2]
theorem ag_alike : AgP fX10_alike fX11_alike := agp_ro fun σ h Λ hI => ⟨_, c_alike hI.1 hI.2.1, fun τ iτ eτ => ⟨_, by
  unfold fX11_alike
  rw [r_alike (iτ.core Core_thrown) ((w85 _ _).trans eτ), tri _ (lik_s _)], Core_thrown⟩⟩
/-! feuds -/
def fdd (V : pn_V) (p q : Nat) : Int32 := if tr V p 5 = nI q ∧ tr V q 5 = nI p then 1 else 0
theorem fdd_s (V : pn_V) (p q : Nat) : fdd V p q = fdd V q p := by
  unfold fdd
  by_cases h : tr V p 5 = nI q ∧ tr V q 5 = nI p
  · rw [if_pos h, if_pos ⟨h.2, h.1⟩]
  · rw [if_neg h, if_neg (fun z => h ⟨z.2, z.1⟩)]
theorem fo_one (x : Nat → Int32) (q0 : Nat) : ∀ (k p : Nat), fo (fun q acc => acc + (if q = q0 then x q else 0)) p k 0 = if p ≤ q0 ∧ q0 < p + k then x q0 else 0 := by
  intro k
  induction k with
  | zero => intro p; rw [if_neg (by omega)]; rfl
  | succ k ih =>
    intro p
    rw [fo_last, ih]
    show _ + (if p + k = q0 then x (p + k) else 0) = _
    by_cases h : p + k = q0
    · rw [if_pos h, if_neg (by omega), if_pos (by omega), h, Int32.zero_add]
    · rw [if_neg h, Int32.add_zero]
      by_cases h2 : p ≤ q0 ∧ q0 < p + k
      · rw [if_pos h2, if_pos (by omega)]
      · rw [if_neg h2, if_neg (by omega)]
theorem beh_fdd {V : pn_V} (hw : VW V) {p : Nat} (hp : p < vn V) : (∀ q, q < vn V → tr V p 5 = nI q → behind (fdd V) (vn V) p = if p < q ∧ tr V q 5 = nI p then 1 else 0) ∧ (tr V p 5 = -1 → behind (fdd V) (vn V) p = 0) := by
  have hn := hw.n.2
  refine ⟨fun q hq e => ?_, fun e => ?_⟩
  · have key : behind (fdd V) (vn V) p = fo (fun q' acc => acc + (if q' = q then (if tr V q' 5 = nI p then (1 : Int32) else 0) else 0)) (p + 1) (vn V - (p + 1)) 0 := by
      unfold behind
      refine fo_congr _ _ _ fun q' h1 h2 b => ?_
      show b + fdd V p q' = b + _
      unfold fdd
      rw [e]
      by_cases z : q' = q
      · subst z
        rw [if_pos rfl]
        by_cases z2 : tr V q' 5 = nI p
        · rw [if_pos ⟨rfl, z2⟩, if_pos z2]
        · rw [if_neg (fun y => z2 y.2), if_neg z2]
      · rw [if_neg z, if_neg (fun y => z ((nI_eq (by omega) (by omega)).mp y.1).symm)]
    rw [key, fo_one (fun q' => if tr V q' 5 = nI p then (1 : Int32) else 0)]
    by_cases z : p < q
    · rw [if_pos (by omega)]
      by_cases z2 : tr V q 5 = nI p
      · rw [if_pos z2, if_pos ⟨z, z2⟩]
      · rw [if_neg z2, if_neg (fun y => z2 y.2)]
    · rw [if_neg (by omega), if_neg (fun y => z y.1)]
  · unfold behind
    refine fo_id _ _ _ fun q' h1 h2 => ?_
    show 0 + fdd V p q' = 0
    unfold fdd
    rw [e, if_neg (fun y => nI_m1 (t := q') (by omega) y.1.symm), Int32.zero_add]
theorem c_feuds {σ : pn_S} {V : pn_V} (h : CV σ 5 V) (hw : VW V) : fX10_feuds σ = some (sm (behind (fdd V) (vn V)) (vn V)) := by
  have hn := hw.n
  have e : σ 5 2 = nI (vn V) := by rw [h.1.1, hn.1]
  obtain ⟨s, g1, g2⟩ := lpE (n := vn V) (F := fun f p acc => fX10_feuds_4 f acc (nI p) σ) (out := fun s => some s) (fun p s => s = sm (behind (fdd V) (vn V)) p)
    (fun f s _ => by rw [fX10_feuds_4, e, if_pos (nI_le (by omega) (by omega))])
    (fun f p s hp hs => by
      refine ⟨s + behind (fdd V) (vn V) p, ?_, by rw [sm_s, ← hs]⟩
      have g : fX8_of 5 (nI p) 5 σ = some (tr V p 5) := c_of h hw hp (k := 5) (by omega)
      rw [fX10_feuds_4, e, if_neg (nI_ge (by omega) (by omega)), g, Option.bind_some, nI_1]
      have ep : (nI p).toInt = p := nI_toInt (by omega)
      rcases hw.fd hp with z | ⟨q, hq, z⟩
      · rw [(beh_fdd hw hp).2 z, z, if_pos (by rw [q_le, ep]; show (-1 : Int) ≤ p; omega), Int32.add_zero]
      · have g' : fX8_of 5 (nI q) 5 σ = some (tr V q 5) := c_of h hw hq (k := 5) (by omega)
        have eq : (nI q).toInt = q := nI_toInt (by omega)
        rw [(beh_fdd hw hp).1 q hq z, z]
        by_cases y : p < q
        · rw [if_neg (by rw [q_le, ep, eq]; omega), g', Option.bind_some]
          by_cases y2 : tr V q 5 = nI p
          · rw [if_pos y2, if_pos ⟨y, y2⟩]
          · rw [if_neg y2, if_neg (fun w => y2 w.2), Int32.add_zero]
        · rw [if_pos (by rw [q_le, ep, eq]; omega), if_neg (fun w => y w.1), Int32.add_zero]) (vn V) 0 5000 0 (by omega) (by omega) rfl
  unfold fX10_feuds
  refine g1.trans ?_
  rw [g2]
theorem r_feuds {σ : pn_S} {h : Bool} {Λ : pn_La} {V : pn_V} (hI : Inv σ h Λ) (he : σ 86 = V) : fX11_feuds_9 5000 0 0 σ = some (sm (ahead (fdd V)) (vn V), σ) := by
  have hn : vn V ≤ 8 := by rw [← he]; exact hI.2.1.n.2
  obtain ⟨s, g1, g2⟩ := lpE (n := vn V) (F := fun f p acc => fX11_feuds_9 f acc (nI p) σ) (out := fun s => some (s, σ)) (fun p s => s = sm (ahead (fdd V)) p)
    (fun f s _ => by rw [fX11_feuds_9, rpe hI he, Option.bind_some, if_pos (nI_le (by omega) (by omega))])
    (fun f p s hp hs => by
      refine ⟨s + ahead (fdd V) p, ?_, by rw [sm_s, ← hs]⟩
      rw [fX11_feuds_9, rpe hI he, Option.bind_some, if_neg (nI_ge (by omega) (by omega))]
      obtain ⟨n, k1, k2⟩ := lpE (n := p) (F := fun f' j acc => fX11_feuds_19 (fX11_feuds_9 f) f' acc (nI p) (nI j) σ) (out := fun n => fX11_feuds_9 f n (nI (p + 1)) σ) (fun j acc => acc = fo (fun q acc => acc + fdd V p q) 0 j s)
        (fun f' n _ => by rw [fX11_feuds_19, if_pos (nI_le (by omega) (by omega)), nI_1])
        (fun f' j acc hj ha => by
          refine ⟨acc + fdd V p j, ?_, by rw [fo_s, ← ha]⟩
          have gp : fX11_of (nI p) 5 σ = some (tr V p 5) := rof hI he hp (k := 5) (by omega)
          have gj : fX11_of (nI j) 5 σ = some (tr V j 5) := rof hI he (p := j) (by omega) (k := 5) (by omega)
          rw [fX11_feuds_19, if_neg (nI_ge (by omega) (by omega)), gp, Option.bind_some, gj, Option.bind_some, nI_1]
          unfold fX11_feuds_49 fdd
          rw [nI_1]
          by_cases z : tr V p 5 = nI j
          · rw [if_pos z]
            by_cases z2 : tr V j 5 = nI p
            · rw [if_pos z2, if_pos ⟨z, z2⟩]
            · rw [if_neg z2, if_neg (fun w => z2 w.2)]
          · rw [if_neg z, if_neg (fun w => z w.1)]) p 0 5000 s (by omega) (by omega) rfl
      refine k1.trans ?_
      rw [k2, fo_sum]
      rfl) (vn V) 0 5000 0 (by omega) (by omega) rfl
  refine g1.trans ?_
  rw [g2]
theorem ag_feuds : AgP fX10_feuds fX11_feuds := agp_ro fun σ h Λ hI => ⟨_, c_feuds hI.1 hI.2.1, fun τ iτ eτ => ⟨_, by
  unfold fX11_feuds
  rw [r_feuds (iτ.core Core_thrown) ((w85 _ _).trans eτ), tri _ (fdd_s _)], Core_thrown⟩⟩
