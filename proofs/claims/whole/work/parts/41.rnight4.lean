/-! PURE: a whole night; the reference -/
theorem r_n87 {σ : pn_S} {c : Int32} (hc : s8 c) : fX11_oneNight_87 c σ = some (nI (pc c), pn_up σ 86 3 (if σ 86 3 + 1 < 9999 then σ 86 3 + 1 else 9999)) ∧ (pn_up σ 86 3 (if σ 86 3 + 1 < 9999 then σ 86 3 + 1 else 9999)) 86 = ngt (σ 86) := by
  refine ⟨?_, pn_up_row _ _ _ _⟩
  unfold fX11_oneNight_87
  rw [jmin, Option.bind_some, j_bc hc, Option.bind_some]
theorem r_n30 {σ : pn_S} {V : pn_V} {h0 : Bool} {Λ : pn_La} {dr : Bool} {s2 : Int32} (hU : upd (σ 86) 4 s2 = V) (hw : VW V) (hR : RLa V h0 Λ) (hL : LW Λ) : ∃ σ', fX11_oneNight_30 (b01 (!dr)) 4 s2 σ = some ((if V 5 = -1 then 0 else nI (pc (cameS V Λ))), σ') ∧ σ' 86 = (if V 5 = -1 then ngt V else ngt (night2 V Λ dr)) ∧ FrRN σ σ' := by
  unfold fX11_oneNight_30
  rw [if_pos (by decide)]
  have e4 : (4 : Int32).toNatClampNeg = 4 := rfl
  rw [e4]
  generalize hσ1 : pn_up σ 86 4 s2 = σ1
  have eV : σ1 86 = V := by rw [← hσ1, pn_up_row]; exact hU
  have f1 : FrRN σ σ1 := by rw [← hσ1]; exact F86N (F86 Fr.rf)
  subst eV
  have h8 := hw.n.2
  by_cases q : σ1 86 5 = -1
  · rw [if_pos q, if_pos q, if_pos q]
    unfold fX11_oneNight_52
    rw [if_pos q]
    obtain ⟨a, b⟩ := r_n87 (σ := σ1) s8_0
    exact ⟨_, a, b, f1.tr (F86N (F86 Fr.rf))⟩
  rw [if_neg q, if_neg q, if_neg q]
  obtain ⟨ht, e5⟩ := vw_ne hw q
  obtain ⟨σ2, g1, -, -, g4, -⟩ := r_crowd hw ht hR hL
  have e2 : σ2 86 = σ1 86 := g4.w
  have g1 : fX11_crowdOf (σ1 86 5) σ1 = some (cameS (σ1 86) Λ, σ2) := by rw [e5]; exact g1
  have hc8 : s8 (cameS (σ1 86) Λ) := crowd_s8 h8
  have hcn : ∀ p, vn (σ1 86) ≤ p → p < 8 → bt (cameS (σ1 86) Λ) p = false := fun p h1 h2 => by
    cases hb : bt (cameS (σ1 86) Λ) p with
    | false => rfl
    | true => have := (crowd_in h8 (by omega) (by omega) hb).1; omega
  rw [g1, bi_some]
  unfold fX11_oneNight_52
  rw [if_neg q]
  obtain ⟨σ3, k1, k2, k3⟩ := r_leads (σ := σ2) (t := tgt (σ1 86)) (c := cameS (σ1 86) Λ) (z := nz (pans (σ1 86) Λ (tgt (σ1 86))) (cameS (σ1 86) Λ)) (dr := dr) (by rw [e2]; exact hw) (by rw [e2]; exact hR) hL (by rw [e2]; exact ht) (by rw [e2]; exact e5) hc8 (by rw [e2]; exact hcn) (by rw [e2])
  rw [e2] at k1 k2
  have k1 : fX11_leadsTo (cameS (σ1 86) Λ) (b01 (!dr)) σ2 = some ((end2 (σ1 86) Λ dr).2, σ3) := k1
  have k2 : σ3 86 = (end2 (σ1 86) Λ dr).1 := k2
  have ew := end_W (c := cameS (σ1 86) Λ) (dr := dr) hw ht e5 (noise_rg (V := σ1 86) hL (tgt (σ1 86)) (cameS (σ1 86) Λ)).1
  have hw3 : VW (σ3 86) := by rw [k2]; exact ew.1
  rw [k1, bi_some, j_bc hc8, Option.bind_some]
  obtain ⟨σ4, m1, m2, m3⟩ := r_tells (σ := σ3) (t := σ1 86 5) (many := nI (pc (cameS (σ1 86) Λ))) (what := (end2 (σ1 86) Λ dr).2) hw3
  rw [m1, Option.bind_some]
  have m2 : σ4 86 = vsh (end2 (σ1 86) Λ dr).1 (rowS (end2 (σ1 86) Λ dr).1 (σ1 86 5) (nI (pc (cameS (σ1 86) Λ))) (end2 (σ1 86) Λ dr).2) := by rw [m2, k2]
  have f4 : FrRN σ σ4 := ((f1.tr g4.N).tr k3).tr (F86N m3)
  have e45 : σ4 86 5 = (end2 (σ1 86) Λ dr).1 5 := by rw [m2, vsh_lo (by omega) (by omega)]
  rcases ew.2.2 with z | z
  · have z1 : (end2 (σ1 86) Λ dr).2 = 2 := z.1
    have z2 : (end2 (σ1 86) Λ dr).1 5 = -1 := z.2
    rw [if_pos z1]
    obtain ⟨a, b⟩ := r_n87 (σ := σ4) hc8
    refine ⟨_, a, ?_, f4.tr (F86N (F86 Fr.rf))⟩
    rw [b]
    have : night2 (σ1 86) Λ dr = σ4 86 := by
      unfold night2 bearS
      rw [← m2, if_pos (by rw [e45]; exact z2)]
    rw [this]
  · have z1 : ¬ (end2 (σ1 86) Λ dr).2 = 2 := z.1
    have z2 : (end2 (σ1 86) Λ dr).1 5 = σ1 86 5 := z.2
    rw [if_neg z1]
    have hw4 : VW (σ4 86) := by rw [m2]; exact vsh_W ew.1 _
    have hn4 : vn (σ4 86) = vn (σ1 86) := by rw [m2]; exact vsh_vn.trans ew.2.1
    obtain ⟨σ5, b1, b2, b3⟩ := r_bears (σ := σ4) (t := tgt (σ1 86)) hw4 (by rw [hn4]; exact ht) (by rw [e45, z2]; exact e5)
    rw [b1, Option.bind_some]
    obtain ⟨a, b⟩ := r_n87 (σ := σ5) hc8
    refine ⟨_, a, ?_, (f4.tr (F86N b3)).tr (F86N (F86 Fr.rf))⟩
    rw [b, b2, m2]
    rfl
theorem r_night {σ : pn_S} {h0 : Bool} {Λ : pn_La} {dr : Bool} (hw : VW (σ 86)) (hR : RLa (σ 86) h0 Λ) (hL : LW Λ) : ∃ σ', fX11_oneNight (b01 (!dr)) σ = some ((nightS (σ 86) Λ dr).2, σ') ∧ σ' 86 = (nightS (σ 86) Λ dr).1 ∧ FrRN σ σ' := by
  have ww := wet_W (dr := dr) hw
  have hRw : RLa (wetS (σ 86) dr) h0 Λ := rl_V hR fun k hk => wet_at (by omega) (by omega)
  have fin : ∀ (σ1 : pn_S) (s2 : Int32), upd (σ1 86) 4 s2 = wetS (σ 86) dr → FrRN σ σ1 → ∃ σ', fX11_oneNight_30 (b01 (!dr)) 4 s2 σ1 = some ((nightS (σ 86) Λ dr).2, σ') ∧ σ' 86 = (nightS (σ 86) Λ dr).1 ∧ FrRN σ σ' := by
    intro σ1 s2 a1 a2
    obtain ⟨σ', k1, k2, k3⟩ := r_n30 (dr := dr) a1 ww.1 hRw hL
    refine ⟨σ', ?_, ?_, a2.tr k3⟩
    · rw [k1]; unfold nightS; split <;> rfl
    · rw [k2]; unfold nightS; split <;> rfl
  unfold fX11_oneNight
  cases hd : dr with
  | false =>
    subst hd
    rw [if_neg (show ¬ b01 (!false) = 0 by decide)]
    exact fin σ 0 (by unfold wetS dif; rw [if_neg (by decide), if_neg (fun q => Bool.false_ne_true q.1)]) FrRN.rf
  | true =>
    subst hd
    obtain ⟨g1, g2⟩ := r_draw (σ := σ)
    rw [if_pos (show b01 (!true) = 0 by decide), g1, bi_some, g2, show dV (σ 86) 7 = σ 86 7 from pk_un (by omega)]
    have f1 : FrRN σ (pn_up σ 86 12 (1103515245 * σ 86 12 + 12345)) := F86N (F86 Fr.rf)
    by_cases q : σ 86 7 ≤ dN (σ 86)
    · rw [if_pos q]
      exact fin _ 0 (by rw [g2]; unfold wetS dif; rw [if_pos rfl, if_neg (fun z => z.2 q)]) f1
    · rw [if_neg q]
      exact fin _ 1 (by rw [g2]; unfold wetS dif; rw [if_pos rfl, if_pos ⟨rfl, q⟩]) f1
