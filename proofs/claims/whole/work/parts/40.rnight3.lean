/-! PURE: a night passes; the reference -/
def FrRN (σ σ' : pn_S) : Prop := (∀ i, i ≠ 85 → i ≠ 86 → i ≠ 93 → i ≠ 94 → i ≠ 95 → σ' i = σ i) ∧ ∀ k, k ≠ 20 → σ' 85 k = σ 85 k
theorem FrRN.rf {σ : pn_S} : FrRN σ σ := ⟨fun _ _ _ _ _ _ => rfl, fun _ _ => rfl⟩
theorem FrRN.tr {a b c : pn_S} (h : FrRN a b) (h2 : FrRN b c) : FrRN a c := ⟨fun i q1 q2 q3 q4 q5 => (h2.1 i q1 q2 q3 q4 q5).trans (h.1 i q1 q2 q3 q4 q5), fun k q => (h2.2 k q).trans (h.2 k q)⟩
theorem FrR.N {a b : pn_S} (h : FrR a b) : FrRN a b := ⟨fun i q1 _ q3 q4 q5 => h.1 i q1 q3 q4 q5, h.2⟩
theorem F86N {a b : pn_S} (h : Fr S86 a b) : FrRN a b := ⟨fun i _ q2 _ _ _ => h i q2, fun k _ => by rw [h 85 (by unfold S86; omega)]⟩
theorem rl_V {V U : pn_V} {h : Bool} {Λ : pn_La} (hR : RLa V h Λ) (he : ∀ k, k = 2 ∨ 317 ≤ k → U k = V k) : RLa U h Λ := by
  obtain ⟨r1, r2, r3, r4, r5⟩ := hR
  refine ⟨by rw [he 2 (Or.inl rfl)]; exact r1, r2, fun q => by rw [he 317 (Or.inr (by omega))]; exact r3 q, fun i hi => ?_, fun j hj => ?_⟩
  · rw [he _ (Or.inr (by omega)), he _ (Or.inr (by omega)), he _ (Or.inr (by omega)), he _ (Or.inr (by omega))]; exact r4 i hi
  · rw [he _ (Or.inr (by omega)), he _ (Or.inr (by omega))]; exact r5 j hj
theorem pc_0n : ∀ k, k < 256 → (nI k = 0 ↔ pc (nI k) = 0) := by decide +kernel
theorem pc_0 {c : Int32} (h : s8 c) : c = 0 ↔ pc c = 0 := by
  obtain ⟨k, hk, rfl⟩ := s8_nat h
  exact pc_0n k hk
theorem Fc_d {V : pn_V} {p t : Nat} : Fc (dV V) p t = Fc V p t := by
  have e : ∀ k, k ≠ 12 → dV V k = V k := fun k hk => pk_un hk
  have et : ∀ q k, tr (dV V) q k = tr V q k := fun q k => e _ (by omega)
  funext j
  unfold Fc
  simp only [et, e 5 (by omega), e 6 (by omega), e 3 (by omega), e 4 (by omega)]
theorem pans_d {V : pn_V} {Λ : pn_La} {t : Nat} : pans (dV V) Λ t = pans V Λ t := by
  funext p
  unfold pans
  rw [Fc_d]
theorem r_leads40 {σ : pn_S} {t : Nat} {c z : Int32} {h0 : Bool} {Λ : pn_La} (hw : VW (σ 86)) (hR : RLa (σ 86) h0 Λ) (hL : LW Λ) (ht : t < vn (σ 86)) (h5 : σ 86 5 = nI t) (hc : s8 c) (hcn : ∀ p, vn (σ 86) ≤ p → p < 8 → bt c p = false) (hz : nz (pans (σ 86) Λ t) c = z) :
    ∃ σ', fX11_leadsTo_40 c (nI t) σ = some ((if z < tr (σ 86) t 2 ∨ tr (σ 86) t 3 < σ 86 10 * nI (pc c) then (3 : Int32) else 2), σ') ∧ σ' 86 = (if z < tr (σ 86) t 2 ∨ tr (σ 86) t 3 < σ 86 10 * nI (pc c) then upd (σ 86) (13 + 8 * t + 2) (mx0 (tr (σ 86) t 2 - z / 4)) else buyV (σ 86) t c) ∧ FrRN σ σ' := by
  have h8 := hw.n.2
  obtain ⟨σ1, g1, g2, -, -, -⟩ := r_noise (x := c) hw ht hR hL hcn
  have e1 : σ1 86 = σ 86 := g2.w
  have hw1 : VW (σ1 86) := by rw [e1]; exact hw
  have o2 : fX11_of (nI t) 2 σ1 = some (tr (σ 86) t 2) := by rw [← e1]; exact r_of hw1 (k := 2) (by rw [e1]; exact ht) (by omega)
  have o3 : fX11_of (nI t) 3 σ1 = some (tr (σ 86) t 3) := by rw [← e1]; exact r_of hw1 (k := 3) (by rw [e1]; exact ht) (by omega)
  have a2 : fX11_at (nI t) 2 σ1 = some (nI (13 + 8 * t + 2)) := r_at' (k := 2)
  have pay : fX11_paysOff (nI t) c σ = some ((if z < tr (σ 86) t 2 ∨ tr (σ 86) t 3 < σ 86 10 * nI (pc c) then (0 : Int32) else 1), σ1) := by
    unfold fX11_paysOff
    rw [g1, bi_some, o2, Option.bind_some, hz]
    by_cases q1 : z < tr (σ 86) t 2
    · rw [if_pos q1, if_pos (Or.inl q1)]
    rw [if_neg q1, o3, Option.bind_some, r_price hc, Option.bind_some, e1]
    by_cases q2 : tr (σ 86) t 3 < σ 86 10 * nI (pc c)
    · rw [if_pos q2, if_pos (Or.inr q2)]
    · rw [if_neg q2, if_neg (fun q => q.elim q1 q2)]
  unfold fX11_leadsTo_40
  rw [pay, bi_some]
  by_cases q : z < tr (σ 86) t 2 ∨ tr (σ 86) t 3 < σ 86 10 * nI (pc c)
  · rw [if_pos q, if_pos rfl, if_pos q, if_pos q, a2, Option.bind_some, o2, Option.bind_some]
    obtain ⟨σ2, k1, k2, -, -, -⟩ := r_noise (σ := σ1) (x := c) hw1 (by rw [e1]; exact ht) (by rw [e1]; exact hR) hL (by rw [e1]; exact hcn)
    have e2 : σ2 86 = σ 86 := k2.w.trans e1
    rw [k1, bi_some, jmx, Option.bind_some, q_ib (by omega) (by omega), if_pos rfl, nI_clamp (by omega), e1, hz]
    exact ⟨_, rfl, by rw [pn_up_row, e2], (g2.tr k2).N.tr (F86N (F86 Fr.rf))⟩
  · rw [if_neg q, if_neg (by decide), if_neg q, if_neg q]
    obtain ⟨σ2, k1, k2, k3⟩ := r_buysOff (σ := σ1) (t := t) (c := c) hw1 (by rw [e1]; exact ht) (by rw [e1]; exact h5) hc (by rw [e1]; exact fun z => q (Or.inr z))
    rw [k1, Option.bind_some]
    exact ⟨σ2, rfl, by rw [k2, e1], g2.N.tr (F86N k3)⟩
theorem r_leads {σ : pn_S} {t : Nat} {c z : Int32} {h0 : Bool} {Λ : pn_La} {dr : Bool} (hw : VW (σ 86)) (hR : RLa (σ 86) h0 Λ) (hL : LW Λ) (ht : t < vn (σ 86)) (h5 : σ 86 5 = nI t) (hc : s8 c) (hcn : ∀ p, vn (σ 86) ≤ p → p < 8 → bt c p = false) (hz : nz (pans (σ 86) Λ t) c = z) :
    ∃ σ', fX11_leadsTo c (b01 (!dr)) σ = some ((endS (σ 86) z t c dr).2, σ') ∧ σ' 86 = (endS (σ 86) z t c dr).1 ∧ FrRN σ σ' := by
  unfold fX11_leadsTo endS
  by_cases h00 : pc c = 0
  · rw [if_pos ((pc_0 hc).mpr h00), if_pos h00]
    exact ⟨σ, rfl, rfl, FrRN.rf⟩
  rw [if_neg (fun q => h00 ((pc_0 hc).mp q)), if_neg h00, h5]
  have split2 : ∀ (U : pn_V) (σ' : pn_S) (a b : pn_V) (C : Prop) [Decidable C], ((if C then (a, (3 : Int32)) else (b, 2)).2 = if C then (3 : Int32) else 2) ∧ ((if C then (a, (3 : Int32)) else (b, 2)).1 = if C then a else b) := fun U σ' a b C _ => by
    by_cases q : C
    · rw [if_pos q, if_pos q, if_pos q]; exact ⟨rfl, rfl⟩
    · rw [if_neg q, if_neg q, if_neg q]; exact ⟨rfl, rfl⟩
  cases dr with
  | false =>
    rw [if_neg (show ¬ b01 (!false) = 0 by decide), if_neg (fun q => Bool.false_ne_true q.1)]
    obtain ⟨σ', k1, k2, k3⟩ := r_leads40 hw hR hL ht h5 hc hcn hz
    refine ⟨σ', ?_, ?_, k3⟩
    · rw [k1]; exact congrArg (fun x => some (x, σ')) (split2 (σ 86) σ' _ _ _).1.symm
    · rw [k2]; exact (split2 (σ 86) σ' _ _ _).2.symm
  | true =>
    obtain ⟨g1, g2⟩ := r_draw (σ := σ)
    rw [if_pos (show b01 (!true) = 0 by decide), g1, bi_some, g2, show dV (σ 86) 8 = σ 86 8 from pk_un (by omega)]
    have hwd : VW ((pn_up σ 86 12 (1103515245 * σ 86 12 + 12345)) 86) := by rw [g2]; exact dV_W hw
    have hn : vn (dV (σ 86)) = vn (σ 86) := vn_up (by omega)
    have f1 : FrRN σ (pn_up σ 86 12 (1103515245 * σ 86 12 + 12345)) := F86N (F86 Fr.rf)
    by_cases q : σ 86 8 ≤ dN (σ 86)
    · rw [if_pos q, if_neg (fun z => z.2 q)]
      obtain ⟨σ', k1, k2, k3⟩ := r_leads40 (σ := pn_up σ 86 12 (1103515245 * σ 86 12 + 12345)) (t := t) (c := c) (z := z) hwd (by rw [g2]; exact rl_V hR fun k hk => pk_un (by omega)) hL (by rw [g2, hn]; exact ht) (by rw [g2, show dV (σ 86) 5 = σ 86 5 from pk_un (by omega)]; exact h5) hc (by rw [g2, hn]; exact hcn) (by rw [g2, pans_d]; exact hz)
      rw [g2] at k1 k2
      refine ⟨σ', ?_, ?_, f1.tr k3⟩
      · rw [k1]; exact congrArg (fun x => some (x, σ')) (split2 (σ 86) σ' _ _ _).1.symm
      · rw [k2]; exact (split2 (σ 86) σ' _ _ _).2.symm
    · rw [if_neg q, if_pos ⟨rfl, q⟩]
      obtain ⟨σ', k1, k2, k3⟩ := r_fines (c := c) hwd
      rw [k1, Option.bind_some]
      rw [g2, hn] at k2
      exact ⟨σ', rfl, k2, f1.tr (F86N k3)⟩
