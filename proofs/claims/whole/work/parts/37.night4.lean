/-! PURE: a whole night; the class -/
theorem lsum_rg {Λ : pn_La} (hL : LW Λ) (F : Nat → Int32) (k : Nat) : ∀ i, i ≤ Λ.1 → rg (lsum Λ F k i) 0 (30 * i) := by
  have h12 := hL.1
  intro i
  induction i with
  | zero => intro _; exact ⟨by show (0 : Int) ≤ 0; omega, by show (0 : Int) ≤ _; omega⟩
  | succ i ih =>
    intro hi
    have r := ih (by omega)
    have r1 := r.1
    have r2 := r.2
    have a := (hL.2.2.2 i (by omega)).2.1
    have a1 := a.1
    have a2 := a.2
    rw [lsum_s]
    split
    · refine ⟨?_, ?_⟩ <;> rw [q_add (by omega) (by omega)] <;> omega
    · exact ⟨r1, by omega⟩
theorem pans_rg {V : pn_V} {Λ : pn_La} (hL : LW Λ) (t p : Nat) : rg (pans V Λ t p) 1 361 := by
  have h12 := hL.1
  have r := lsum_rg hL (Fc V p t) 2 Λ.1 (Nat.le_refl _)
  have r1 := r.1
  have r2 := r.2
  have e1 : (1 : Int32).toInt = 1 := rfl
  unfold pans
  refine ⟨?_, ?_⟩ <;> rw [q_add (by omega) (by omega)] <;> omega
theorem sm_rg {g : Nat → Int32} {M : Int} (hM : 0 ≤ M) (hM2 : M ≤ 1000000) : ∀ k, k ≤ 8 → (∀ p, p < k → rg (g p) 0 M) → rg (sm g k) 0 (k * M) := by
  intro k
  induction k with
  | zero => intro _ _; exact ⟨by show (0 : Int) ≤ 0; omega, by show (0 : Int) ≤ _; omega⟩
  | succ k ih =>
    intro hk h
    have r := ih (by omega) fun p hp => h p (by omega)
    have r1 := r.1
    have r2 := r.2
    have a := h k (by omega)
    have a1 := a.1
    have a2 := a.2
    have b : (k : Int) * M ≤ 8 * 1000000 := Int.mul_le_mul (by omega) hM2 hM (by omega)
    have c : ((k + 1 : Nat) : Int) * M = k * M + M := by rw [Int.natCast_add, Int.add_mul]; omega
    rw [sm_s, c]
    refine ⟨?_, ?_⟩ <;> rw [q_add (by omega) (by omega)] <;> omega
theorem nz_rg {f : Nat → Int32} {x : Int32} (h : ∀ p, p < 8 → rg (f p) 0 361) : rg (nz f x) 0 2888 := by
  have := sm_rg (g := fun p => if bt x p = true then f p else 0) (M := 361) (by omega) (by omega) 8 (by omega) fun p hp => by
    show rg (if bt x p = true then f p else 0) 0 361
    split
    · exact h p hp
    · exact ⟨by show (0 : Int) ≤ 0; omega, by show (0 : Int) ≤ 361; omega⟩
  exact this
theorem noise_rg {V : pn_V} {Λ : pn_La} (hL : LW Λ) (t : Nat) (x : Int32) : rg (nz (pans V Λ t) x) 0 2888 := nz_rg fun p _ => by
  have r := pans_rg (V := V) hL t p
  exact ⟨by have := r.1; omega, r.2⟩
/-- the same but for the village v and the class's scratch -/
def FrN (v : Nat) (σ σ' : pn_S) : Prop := (∀ i, i ≠ v → i ≠ v + 1 → i ≠ v + 2 → i ≠ 14 → i ≠ 19 → i ≠ 20 → i ≠ 37 → i ≠ 38 → i ≠ 39 → i ≠ 40 → σ' i = σ i) ∧ ∀ k, k ≠ 8 → k ≠ 9 → k ≠ 10 → σ' 14 k = σ 14 k
theorem FrN.rf {v : Nat} {σ : pn_S} : FrN v σ σ := ⟨fun _ _ _ _ _ _ _ _ _ _ _ => rfl, fun _ _ _ _ => rfl⟩
theorem FrN.tr {v : Nat} {a b c : pn_S} (h : FrN v a b) (h2 : FrN v b c) : FrN v a c := ⟨fun i q1 q2 q3 q4 q5 q6 q7 q8 q9 q10 => (h2.1 i q1 q2 q3 q4 q5 q6 q7 q8 q9 q10).trans (h.1 i q1 q2 q3 q4 q5 q6 q7 q8 q9 q10), fun k q1 q2 q3 => (h2.2 k q1 q2 q3).trans (h.2 k q1 q2 q3)⟩
theorem FrC.N {v : Nat} {a b : pn_S} (h : FrC a b) : FrN v a b := ⟨fun i _ _ _ q4 q5 q6 q7 q8 q9 q10 => h.1 i q4 q5 q6 q7 q8 q9 q10, h.2⟩
theorem Fr.N {v : Nat} (hv : v + 3 ≤ 14) {a b : pn_S} (h : Fr (fun i => i = v ∨ i = v + 1 ∨ i = v + 2) a b) : FrN v a b := ⟨fun i q1 q2 q3 _ _ _ _ _ _ _ => h i (by omega), fun k _ _ _ => by rw [h 14 (by omega)]⟩
theorem Fr2 {v : Nat} {a b : pn_S} (h : Fr (fun i => i = v ∨ i = v + 1) a b) : Fr (fun i => i = v ∨ i = v + 1 ∨ i = v + 2) a b := h.mono fun i hi => by omega
theorem cl_N {v : Nat} (hv : v + 3 ≤ 14) {σ σ' : pn_S} {h : Bool} {Λ : pn_La} (hC : CL σ 14 h Λ) (hf : FrN v σ σ') : CL σ' 14 h Λ :=
  cl_fr hC (hf.2 6 (by omega) (by omega) (by omega)) (hf.1 15 (by omega) (by omega) (by omega) (by omega) (by omega) (by omega) (by omega) (by omega) (by omega) (by omega)) (hf.1 16 (by omega) (by omega) (by omega) (by omega) (by omega) (by omega) (by omega) (by omega) (by omega) (by omega)) (hf.1 17 (by omega) (by omega) (by omega) (by omega) (by omega) (by omega) (by omega) (by omega) (by omega) (by omega)) (hf.1 18 (by omega) (by omega) (by omega) (by omega) (by omega) (by omega) (by omega) (by omega) (by omega) (by omega))
theorem ngt_W {V : pn_V} (hw : VW V) : VW (ngt V) ∧ vn (ngt V) = vn V := by
  refine ⟨vw_f hw (by omega) (by omega) (Or.inr (Or.inr ?_)), vn_up (by omega)⟩
  have r := hw.2.2.1
  have r1 := r.1
  have r2 := r.2
  have e1 : (1 : Int32).toInt = 1 := rfl
  have e9 : (9999 : Int32).toInt = 9999 := rfl
  have ea : (V 3 + 1).toInt = (V 3).toInt + 1 := by rw [q_add (by omega) (by omega), e1]
  split
  · rename_i q
    rw [q_lt, ea, e9] at q
    exact ⟨by rw [ea]; show (0 : Int) ≤ _; omega, by rw [ea]; show _ ≤ (9999 : Int); omega⟩
  · exact ⟨by show (0 : Int) ≤ 9999; omega, by show (9999 : Int) ≤ 9999; omega⟩
theorem c_n95 {σ : pn_S} {v : Nat} {V : pn_V} (h : CV σ v V) (x : Int32) : ∃ σ', fX10_passNight_95 v x σ = some (x, σ') ∧ CV σ' v (ngt V) ∧ Fr (fun i => i = v ∨ i = v + 1 ∨ i = v + 2) σ σ' := by
  unfold fX10_passNight_95
  rw [jmin, Option.bind_some, h.1.2.2.2.2.1]
  exact ⟨_, rfl, cv_fld h 6 3 _ (by omega), Fr.rf.up (Or.inl rfl)⟩
theorem vw_ne {V : pn_V} (hw : VW V) (h : ¬ V 5 = -1) : tgt V < vn V ∧ V 5 = nI (tgt V) := by
  rcases hw.tg with q | ⟨t, ht, e⟩
  · exact absurd q h
  · have := hw.n.2
    rw [tgt_eq (by omega) e]; exact ⟨ht, e⟩
theorem c_n24 {σ : pn_S} {v : Nat} {V U : pn_V} {h0 : Bool} {Λ : pn_La} {dr : Bool} {s1 : Int32} (hv : v + 3 ≤ 14) (h : CV σ v U) (hs : bo s1 = true) (hU : upd U 4 s1 = V) (hw : VW V) (hC : CL σ 14 h0 Λ) (hL : LW Λ) : ∃ σ', fX10_passNight_24 v (b01 dr) s1 σ = some ((if V 5 = -1 then 0 else nI (pc (cameS V Λ))), σ') ∧ CV σ' v (if V 5 = -1 then ngt V else ngt (night2 V Λ dr)) ∧ VW (if V 5 = -1 then ngt V else ngt (night2 V Λ dr)) ∧ vn (if V 5 = -1 then ngt V else ngt (night2 V Λ dr)) = vn V ∧ FrN v σ σ' := by
  have hb : pn_b01 s1 = true := by rcases bo01 hs with e | e <;> rw [e] <;> decide
  have h1 : CV (pn_up σ v 7 s1) v V := by rw [← hU]; exact cv_fld h 7 4 _ (by omega)
  have f1 : FrN v σ (pn_up σ v 7 s1) := Fr.N hv (Fr.rf.up (Or.inl rfl))
  unfold fX10_passNight_24
  rw [if_pos hb, h1.1.2.2.1]
  by_cases q : V 5 = -1
  · rw [if_pos q, if_pos q, if_pos q]
    obtain ⟨σ', k1, k2, k3⟩ := c_n95 h1 0
    have w := ngt_W hw
    exact ⟨σ', k1, k2, w.1, w.2, f1.tr (Fr.N hv k3)⟩
  rw [if_neg q, if_neg q, if_neg q]
  obtain ⟨ht, e5⟩ := vw_ne hw q
  obtain ⟨σ1, g1, g2, g3⟩ := c_invite h1 hw (cl_N hv hC f1) hL hv ht
  obtain ⟨σ2, k1, k2, k3, k4⟩ := c_gather2 hw.n.2 ht g2 (vbeg V) 0
  have h2 : CV σ2 v V := cv_C h1 (g3.tr k4) hv
  obtain ⟨σ3, m1, m2, m3⟩ := c_end (dr := dr) (by omega) h2 hw ht e5 k2.1 k2.2.1 k2.2.2.1
  have ew := end_W (c := cameS V Λ) (dr := dr) hw ht e5 (noise_rg (V := V) hL (tgt V) (cameS V Λ)).1
  obtain ⟨σ4, n1, n2, n3⟩ := c_addRow m2 ew.1 (V 5) (nI (pc (cameS V Λ))) (end2 V Λ dr).2
  have hv4 : VW (vsh (end2 V Λ dr).1 (rowS (end2 V Λ dr).1 (V 5) (nI (pc (cameS V Λ))) (end2 V Λ dr).2)) := vsh_W ew.1 _
  have hn4 : vn (vsh (end2 V Λ dr).1 (rowS (end2 V Λ dr).1 (V 5) (nI (pc (cameS V Λ))) (end2 V Λ dr).2)) = vn V := vsh_vn.trans ew.2.1
  have n2 : CV σ4 v (vsh (end2 V Λ dr).1 (rowS (end2 V Λ dr).1 (V 5) (nI (pc (cameS V Λ))) (end2 V Λ dr).2)) := n2
  obtain ⟨σ5, b1, b2, b3, b4, b5⟩ := c_bear (t := tgt V) n2 hv4 (by rw [hn4]; exact ht) (by
    show vsh _ _ 5 = -1 ∨ vsh _ _ 5 = nI (tgt V)
    rw [vsh_lo (by omega) (by omega)]
    rcases ew.2.2 with z | z
    · exact Or.inl z.2
    · exact Or.inr (z.2.trans e5))
  obtain ⟨σ6, c1, c2, c3⟩ := c_n95 b2 (nI (pc (cameS V Λ)))
  have w := ngt_W b3
  have e37 : σ2 37 5 = nI (pc (cameS V Λ)) := k2.2.1
  have g1' : fX0_invite v 14 (V 5) (pn_up σ v 7 s1) = some σ1 := by rw [e5]; exact g1
  refine ⟨σ6, ?_, c2, w.1, w.2.trans (b4.trans hn4), ((((f1.tr (g3.tr k4).N).tr (Fr.N hv (Fr2 m3))).tr (Fr.N hv n3)).tr (Fr.N hv (Fr2 b5))).tr (Fr.N hv c3)⟩
  have m1 : fX10_endOfNoise v (b01 dr) σ2 = some ((end2 V Λ dr).2, σ3) := m1
  rw [g1', Option.bind_some, c_beg (cv_C h1 g3 hv) hw, Option.bind_some, k1, Option.bind_some, m1, bi_some, e37, n1, Option.bind_some, b1, Option.bind_some, c1]
theorem c_night {σ : pn_S} {v : Nat} {V : pn_V} {h0 : Bool} {Λ : pn_La} {dr : Bool} (hv : v + 3 ≤ 14) (h : CV σ v V) (hw : VW V) (hC : CL σ 14 h0 Λ) (hL : LW Λ) : ∃ σ', fX10_passNight v (b01 dr) σ = some ((nightS V Λ dr).2, σ') ∧ CV σ' v (nightS V Λ dr).1 ∧ VW (nightS V Λ dr).1 ∧ vn (nightS V Λ dr).1 = vn V ∧ FrN v σ σ' := by
  have ww := wet_W (dr := dr) hw
  have fin : ∀ σ1 : pn_S, ∀ U : pn_V, ∀ s1 : Int32, CV σ1 v U → bo s1 = true → upd U 4 s1 = wetS V dr → FrN v σ σ1 → ∃ σ', fX10_passNight_24 v (b01 dr) s1 σ1 = some ((nightS V Λ dr).2, σ') ∧ CV σ' v (nightS V Λ dr).1 ∧ VW (nightS V Λ dr).1 ∧ vn (nightS V Λ dr).1 = vn V ∧ FrN v σ σ' := by
    intro σ1 U s1 a1 a2 a3 a4
    obtain ⟨σ', k1, k2, k3, k4, k5⟩ := c_n24 (dr := dr) hv a1 a2 a3 ww.1 (cl_N hv hC a4) hL
    refine ⟨σ', ?_, ?_, ?_, ?_, a4.tr k5⟩
    · rw [k1]; unfold nightS; split <;> rfl
    · unfold nightS; split <;> rename_i q
      · rw [if_pos q] at k2; exact k2
      · rw [if_neg q] at k2; exact k2
    · unfold nightS; split <;> rename_i q
      · rw [if_pos q] at k3; exact k3
      · rw [if_neg q] at k3; exact k3
    · rw [← ww.2]; unfold nightS; split <;> rename_i q
      · rw [if_pos q] at k4; exact k4
      · rw [if_neg q] at k4; exact k4
  unfold fX10_passNight
  cases hd : dr with
  | false =>
    subst hd
    rw [if_pos (show b01 false = 0 from rfl)]
    exact fin σ V 0 h (by decide) (by unfold wetS dif; rw [if_neg (by decide), if_neg (fun q => Bool.false_ne_true q.1)]) FrN.rf
  | true =>
    subst hd
    rw [if_neg (show ¬ b01 true = 0 by decide)]
    obtain ⟨x, σ1, g1, g2, g3, g4⟩ := c_draw h
    have f1 : FrN v σ σ1 := Fr.N hv (Fr2 (Fr_v g4))
    rw [g1, bi_some, g2, g3.1.2.2.2.2.2.2.1, show dV V 7 = V 7 from pk_un (by omega)]
    by_cases q : V 7 ≤ dN V
    · rw [if_pos q]
      exact fin σ1 (dV V) 0 g3 (by decide) (by unfold wetS dif; rw [if_pos rfl, if_neg (fun z => z.2 q)]) f1
    · rw [if_neg q]
      exact fin σ1 (dV V) 1 g3 (by decide) (by unfold wetS dif; rw [if_pos rfl, if_pos ⟨rfl, q⟩]) f1
