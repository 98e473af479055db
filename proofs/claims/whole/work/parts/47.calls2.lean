/-! PURE: calls that go through the people -/
theorem lpE {β γ : Type} {n : Nat} {F : Nat → Nat → β → Option γ} {out : β → Option γ} (R : Nat → β → Prop) (h0 : ∀ f s, R n s → F (f + 1) n s = out s) (hs : ∀ f p s, p < n → R p s → ∃ s', F (f + 1) p s = F f (p + 1) s' ∧ R (p + 1) s') : ∀ (k p f : Nat) (s : β), p + k = n → k < f → R p s → ∃ s', F f p s = out s' ∧ R n s' := by
  intro k
  induction k with
  | zero =>
    intro p f s hp hf hr
    have e : p = n := by omega
    subst e
    match f, hf with
    | f + 1, _ => exact ⟨s, h0 f s hr, hr⟩
  | succ k ih =>
    intro p f s hp hf hr
    match f, hf with
    | f + 1, hf =>
      obtain ⟨s1, g1, g2⟩ := hs f p s (by omega) hr
      obtain ⟨s2, g3, g4⟩ := ih (p + 1) f s1 (by omega) (by omega) g2
      exact ⟨s2, g1.trans g3, g4⟩
theorem fo_s {α : Type} (f : Nat → α → α) (p : Nat) (a : α) : fo f 0 (p + 1) a = f p (fo f 0 p a) := by rw [fo_last, Nat.zero_add]
def scr (i : Nat) : Prop := i = 3 ∨ i = 4 ∨ (8 ≤ i ∧ i ≤ 10) ∨ (19 ≤ i ∧ i ≤ 27) ∨ (33 ≤ i ∧ i ≤ 40) ∨ i = 42 ∨ (79 ≤ i ∧ i ≤ 84) ∨ i = 88 ∨ i = 89 ∨ 92 ≤ i
theorem Core.rf {a : pn_S} : Core a a := ⟨fun _ _ => rfl, rfl, rfl, rfl, rfl, rfl, rfl, rfl, rfl, rfl, rfl, rfl⟩
theorem Core_fr {a b : pn_S} (h : Fr scr a b) : Core a b := by
  have e : ∀ i, ¬ scr i → b i = a i := h
  refine ⟨fun i hi => e i (by unfold scr; omega), ?_, ?_, ?_, ?_, ?_, ?_, ?_, ?_, ?_, ?_, ?_⟩ <;> rw [e _ (by unfold scr; omega)]
theorem Core_up {a : pn_S} {i k : Nat} {x : Int32} (hi : scr i) : Core a (pn_up a i k x) := Core_fr (Fr.rf.up hi)
theorem Core_ua {a : pn_S} {i : Nat} {f : Nat → Int32} (hi : scr i) : Core a (pn_ua a i f) := Core_fr (Fr.rf.ua hi)
theorem Core.w {a b : pn_S} (h : Core a b) : b 86 = a 86 := h.1 86 (by omega)
theorem agi_ro {fc fr : pn_S → Option (Int32 × pn_S)} (H : ∀ σ h Λ, Inv σ h Λ → ∃ x σ1, fc σ = some (x, σ1) ∧ Core σ σ1 ∧ ∀ τ, Inv τ h Λ → τ 86 = σ 86 → ∃ σ2, fr τ = some (x, σ2) ∧ Core τ σ2) : AgI fc fr := by
  intro σ h Λ hI
  obtain ⟨x, σ1, e1, c1, K⟩ := H σ h Λ hI
  obtain ⟨σ2, e2, c2⟩ := K σ1 (hI.core c1) c1.w
  exact ⟨x, σ1, σ2, h, Λ, e1, e2, (hI.core c1).core c2⟩
theorem agp_ro {fc : pn_S → Option Int32} {fr : pn_S → Option (Int32 × pn_S)} (H : ∀ σ h Λ, Inv σ h Λ → ∃ x, fc σ = some x ∧ ∀ τ, Inv τ h Λ → τ 86 = σ 86 → ∃ σ2, fr τ = some (x, σ2) ∧ Core τ σ2) : AgP fc fr := by
  intro σ h Λ hI
  obtain ⟨x, e1, K⟩ := H σ h Λ hI
  obtain ⟨σ2, e2, c2⟩ := K σ hI rfl
  exact ⟨x, σ2, h, Λ, e1, e2, hI.core c2⟩
/-- the first of the greatest above a mark -/
def amS (g : Nat → Int32) (p : Nat) (s : Int32 × Int32) : Int32 × Int32 := if g p ≤ s.2 then s else (nI p, g p)
def amx (g : Nat → Int32) (n : Nat) (s : Int32 × Int32) : Int32 × Int32 := fo (amS g) 0 n s
theorem amx_s (g : Nat → Int32) (p : Nat) (s : Int32 × Int32) : amx g (p + 1) s = amS g p (amx g p s) := fo_s _ _ _
theorem mxa {a b : Int32} (h : b ≤ a) : (if a < b then b else a) = a := if_neg (by rw [q_le] at h; rw [q_lt]; omega)
theorem mxb {a b : Int32} (h : ¬ b ≤ a) : (if a < b then b else a) = b := if_pos (by rw [q_le] at h; rw [q_lt]; omega)
/-! hated -/
def hatr (V : pn_V) (t : Nat) : Int32 := fo (fun p acc => acc + (if tr V p 5 = nI t then 1 else 0)) 0 (vn V) 0
theorem c_hatr {σ : pn_S} {V : pn_V} (h : CV σ 5 V) (hw : VW V) (t : Nat) : fX10_hatersOf (nI t) σ = some (hatr V t) := by
  have hn := hw.n
  have e : σ 5 2 = nI (vn V) := by rw [h.1.1, hn.1]
  obtain ⟨s, g1, g2⟩ := lpE (n := vn V) (F := fun f p acc => fX10_hatersOf_4 f (nI t) acc (nI p) σ) (out := fun s => some s) (fun p s => s = fo (fun p acc => acc + (if tr V p 5 = nI t then 1 else 0)) 0 p 0)
    (fun f s _ => by rw [fX10_hatersOf_4, e, if_pos (nI_le (by omega) (by omega))])
    (fun f p s hp hs => by
      have g : fX8_of 5 (nI p) 5 σ = some (tr V p 5) := c_of h hw hp (k := 5) (by omega)
      refine ⟨_, ?_, by rw [fo_s, ← hs]⟩
      rw [fX10_hatersOf_4, e, if_neg (nI_ge (by omega) (by omega)), g, Option.bind_some, nI_1]
      split <;> rfl) (vn V) 0 5000 0 (by omega) (by omega) rfl
  unfold fX10_hatersOf
  refine g1.trans ?_
  rw [g2]
  rfl
theorem c_hated {σ : pn_S} {V : pn_V} (h : CV σ 5 V) (hw : VW V) : fX10_hated σ = some (amx (hatr V) (vn V) (-1, 0)).1 := by
  have hn := hw.n
  have e : σ 5 2 = nI (vn V) := by rw [h.1.1, hn.1]
  obtain ⟨s, g1, g2⟩ := lpE (n := vn V) (F := fun f p (s : Int32 × Int32) => fX10_hated_6 f s.1 s.2 (nI p) σ) (out := fun s => some s.1) (fun p s => s = amx (hatr V) p (-1, 0))
    (fun f s _ => by rw [fX10_hated_6, e, if_pos (nI_le (by omega) (by omega))])
    (fun f p s hp hs => by
      refine ⟨_, ?_, by rw [amx_s, ← hs]⟩
      rw [fX10_hated_6, e, if_neg (nI_ge (by omega) (by omega)), c_hatr h hw, Option.bind_some, nI_1]
      unfold amS
      split <;> rfl) (vn V) 0 5000 (-1, 0) (by omega) (by omega) rfl
  unfold fX10_hated
  refine g1.trans ?_
  rw [g2]
theorem r_hated {σ : pn_S} {h : Bool} {Λ : pn_La} {V : pn_V} (hI : Inv σ h Λ) (he : σ 86 = V) : fX11_hated_11 5000 (-1) 0 0 σ = some ((amx (hatr V) (vn V) (-1, 0)).1, σ) := by
  have hn : vn V ≤ 8 := by rw [← he]; exact hI.2.1.n.2
  obtain ⟨s, g1, g2⟩ := lpE (n := vn V) (F := fun f p (s : Int32 × Int32) => fX11_hated_11 f s.1 s.2 (nI p) σ) (out := fun s => some (s.1, σ)) (fun p s => s = amx (hatr V) p (-1, 0))
    (fun f s _ => by rw [fX11_hated_11, rpe hI he, Option.bind_some, if_pos (nI_le (by omega) (by omega))])
    (fun f p s hp hs => by
      refine ⟨_, ?_, by rw [amx_s, ← hs]⟩
      rw [fX11_hated_11, rpe hI he, Option.bind_some, if_neg (nI_ge (by omega) (by omega))]
      obtain ⟨n, k1, k2⟩ := lpE (n := vn V) (F := fun f' q acc => fX11_hated_25 (fX11_hated_11 f) f' s.1 s.2 (nI p) acc (nI q) σ) (out := fun n => fX11_hated_11 f (amS (fun _ => n) p s).1 (amS (fun _ => n) p s).2 (nI (p + 1)) σ) (fun q acc => acc = fo (fun q acc => acc + (if tr V q 5 = nI p then 1 else 0)) 0 q 0)
        (fun f' n _ => by
          rw [fX11_hated_25, rpe hI he, Option.bind_some, if_pos (nI_le (by omega) (by omega))]
          unfold fX11_hated_72 amS
          rw [jmax, Option.bind_some, nI_1]
          by_cases q : n ≤ s.2
          · rw [if_pos q, if_pos q, mxa q]
          · rw [if_neg q, if_neg q, mxb q, Option.bind_some])
        (fun f' q acc hq hs => by
          have g : fX11_of (nI q) 5 σ = some (tr V q 5) := rof hI he hq (k := 5) (by omega)
          refine ⟨_, ?_, by rw [fo_s, ← hs]⟩
          rw [fX11_hated_25, rpe hI he, Option.bind_some, if_neg (nI_ge (by omega) (by omega)), g, Option.bind_some, nI_1]
          split <;> rfl) (vn V) 0 5000 0 (by omega) (by omega) rfl
      refine k1.trans ?_
      have e2 : n = hatr V p := k2
      rw [e2]
      rfl) (vn V) 0 5000 (-1, 0) (by omega) (by omega) rfl
  refine g1.trans ?_
  rw [g2]
theorem ag_hated : AgP fX10_hated fX11_hated := agp_ro fun σ h Λ hI => ⟨_, c_hated hI.1 hI.2.1, fun τ iτ eτ => ⟨_, (r_hated (iτ.core Core_thrown) ((w85 _ _).trans eτ)), Core_thrown⟩⟩
/-! ripest -/
def ript (V : pn_V) (Λ : pn_La) (t : Nat) : Int32 := fin V (crowd V Λ t (vbeg V) 0).1
theorem ag_ripest : AgI fX10_ripest fX11_ripest := agi_ro fun σ h Λ hI => by
  have hn := hI.2.1.n
  obtain ⟨s, g1, g2, g3⟩ := lpE (n := vn (σ 86)) (F := fun f p (s : (Int32 × Int32) × pn_S) => fX10_ripest_6 f s.1.1 s.1.2 (nI p) s.2) (out := fun s => some (s.1.1, s.2)) (fun p s => s.1 = amx (ript (σ 86) Λ) p (-1, 0) ∧ Core σ s.2)
    (fun f s hs => by
      have e : s.2 5 2 = nI (vn (σ 86)) := by rw [(hI.core hs.2).1.1.1, hs.2.w, hn.1]
      rw [fX10_ripest_6, e, if_pos (nI_le (by omega) (by omega))])
    (fun f p s hp hs => by
      have iI := hI.core hs.2
      have e86 := hs.2.w
      have e : s.2 5 2 = nI (vn (σ 86)) := by rw [iI.1.1.1, e86, hn.1]
      obtain ⟨σ1, k1, k2, k3, k4, k5, k6, k7⟩ := cs iI (t := p) (by rw [e86]; exact hp)
      rw [e86] at k2 k5 k7
      refine ⟨(amS (ript (σ 86) Λ) p s.1, σ1), ?_, by rw [amx_s, ← hs.1], hs.2.tr (Core_C k4)⟩
      rw [fX10_ripest_6, e, if_neg (nI_ge (by omega) (by omega)), k1, Option.bind_some, c_fines k5 hI.2.1 k2.1, Option.bind_some, nI_1]
      unfold amS ript
      split <;> rfl) (vn (σ 86)) 0 5000 ((-1, 0), σ) (by omega) (by omega) ⟨rfl, Core.rf⟩
  refine ⟨s.1.1, s.2, g1, g3, fun τ iτ eτ => ?_⟩
  obtain ⟨s', m1, m2, m3⟩ := lpE (n := vn (σ 86)) (F := fun f p (s : (Int32 × Int32) × pn_S) => fX11_ripest_11 f s.1.1 s.1.2 (nI p) s.2) (out := fun s => some (s.1.1, s.2)) (fun p s => s.1 = amx (ript (σ 86) Λ) p (-1, 0) ∧ Core τ s.2)
    (fun f s hs => by rw [fX11_ripest_11, rpe (iτ.core hs.2) (hs.2.w.trans eτ), Option.bind_some, if_pos (nI_le (by omega) (by omega))])
    (fun f p s hp hs => by
      obtain ⟨σ1, k1, k2, k3, k4⟩ := r_watched (iτ.core hs.2) (hs.2.w.trans eτ) hp
      refine ⟨(amS (ript (σ 86) Λ) p s.1, σ1), ?_, by rw [amx_s, ← hs.1], hs.2.tr (Core_R k2)⟩
      rw [fX11_ripest_11, rpe (iτ.core hs.2) (hs.2.w.trans eτ), Option.bind_some, if_neg (nI_ge (by omega) (by omega)), k1, bi_some]
      unfold amS ript fX11_ripest_37
      rw [jmax, Option.bind_some, nI_1]
      by_cases q : fin (σ 86) (crowd (σ 86) Λ p (vbeg (σ 86)) 0).1 ≤ s.1.2
      · rw [if_pos q, if_pos q, mxa q]
      · rw [if_neg q, if_neg q, Option.bind_some, mxb q]) (vn (σ 86)) 0 5000 ((-1, 0), pn_up τ 85 0 0) (by omega) (by omega) ⟨rfl, Core_thrown⟩
  refine ⟨s'.2, ?_, m3⟩
  rw [g2, ← m2]
  exact m1
