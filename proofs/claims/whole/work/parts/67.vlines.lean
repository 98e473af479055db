/-! PURE: lines, and the call 'village' -/
section
variable {c w : Nat → Int32} {n : Nat} {T P : Nat → Int32} {m : Nat}
theorem JL.b {σ τ : pn_S} {i : Nat} {oc or : Option (Int32 × pn_S)} (h : JL c w n T P m σ τ i oc or) : JL c w n T P m σ τ i (pn_bi oc fun x s => if pn_b01 x then some (x, s) else none) (pn_bi or fun x s => if pn_b01 x then some (x, s) else none) := by
  rcases h with ⟨σ', τ', k', i', h1, h2, r⟩ | ⟨σ', τ', p, h1, h2, r⟩
  · exact Or.inl ⟨σ', τ', k', i', by rw [h1, bi_some, if_pos (by decide)], by rw [h2, bi_some, if_pos (by decide)], r⟩
  · exact Or.inr ⟨σ', τ', p, by rw [h1, bi_some, if_pos (by decide)], by rw [h2, bi_some, if_pos (by decide)], r⟩
theorem JL.bl {σ τ : pn_S} {i : Nat} {oc or : Option (Int32 × pn_S)} (h : JL c w n T P m σ τ i oc or) : JL c w n T P m σ τ i (pn_bi oc fun x s => if pn_b01 x then some (x, s) else none) or := by
  rcases h with ⟨σ', τ', k', i', h1, h2, r⟩ | ⟨σ', τ', p, h1, h2, r⟩
  · exact Or.inl ⟨σ', τ', k', i', by rw [h1, bi_some, if_pos (by decide)], h2, r⟩
  · exact Or.inr ⟨σ', τ', p, by rw [h1, bi_some, if_pos (by decide)], h2, r⟩
theorem JL.br {σ τ : pn_S} {i : Nat} {oc or : Option (Int32 × pn_S)} (h : JL c w n T P m σ τ i oc or) : JL c w n T P m σ τ i oc (pn_bi or fun x s => if x = 0 then some ((0 : Int32), s) else some ((1 : Int32), s)) := by
  rcases h with ⟨σ', τ', k', i', h1, h2, r⟩ | ⟨σ', τ', p, h1, h2, r⟩
  · exact Or.inl ⟨σ', τ', k', i', h1, by rw [h2, bi_some, if_neg (by decide)], r⟩
  · exact Or.inr ⟨σ', τ', p, h1, by rw [h2, bi_some, if_pos rfl], r⟩
theorem j_line (hb : HB c w n) {σ τ : pn_S} {k s : Nat} (h : LSt c w n T P m σ τ k s) (hC : CV σ 8 (τ 86)) (hw : VW (τ 86)) : JL c w n T P m σ τ s (fX9_readLine σ) (fX11_readVillageLine τ) := by
  have wd : ∀ q, q < 27 → fX11_isWord (sid.getD q 0) τ = some (b01 (decide (cod c n s = nI (1000 + q)))) := fun q hq => r_wd hb h.2.1 hq
  have w0 : fX11_isWord 1 τ = some (b01 (decide (cod c n s = 1000))) := wd 0 (by omega)
  have w7 : fX11_isWord 8 τ = some (b01 (decide (cod c n s = 1007))) := wd 7 (by omega)
  have w8 : fX11_isWord 9 τ = some (b01 (decide (cod c n s = 1008))) := wd 8 (by omega)
  have w10 : fX11_isWord 11 τ = some (b01 (decide (cod c n s = 1010))) := wd 10 (by omega)
  have w11 : fX11_isWord 12 τ = some (b01 (decide (cod c n s = 1011))) := wd 11 (by omega)
  have w12 : fX11_isWord 13 τ = some (b01 (decide (cod c n s = 1012))) := wd 12 (by omega)
  have w13 : fX11_isWord 14 τ = some (b01 (decide (cod c n s = 1013))) := wd 13 (by omega)
  have w14 : fX11_isWord 15 τ = some (b01 (decide (cod c n s = 1014))) := wd 14 (by omega)
  have w15 : fX11_isWord 16 τ = some (b01 (decide (cod c n s = 1015))) := wd 15 (by omega)
  have T1 : ¬ b01 true = 0 := by decide
  have F1 : b01 false = 0 := rfl
  unfold fX9_readLine fX11_readVillageLine fX9_readSetting
  rw [h.js.1, Option.bind_some, Option.bind_some, w0, Option.bind_some]
  by_cases h0 : cod c n s = 1000
  · rw [if_pos h0, decide_eq_true h0, if_neg T1]
    exact (j_person hb h hC hw h0).b
  · rw [if_neg h0, decide_eq_false h0, if_pos F1, w7, Option.bind_some]
    by_cases h7 : cod c n s = 1007
    · rw [if_pos h7, decide_eq_true h7, if_neg T1]
      exact (j_wrong hb h hC hw h7).b
    · rw [if_neg h7, decide_eq_false h7, if_pos F1, w8, Option.bind_some]
      by_cases h8 : cod c n s = 1008
      · rw [if_pos h8, decide_eq_true h8, if_neg T1]
        exact (j_feud hb h hC hw h8).b
      · rw [if_neg h8, decide_eq_false h8, if_pos F1, w10, Option.bind_some]
        by_cases h10 : cod c n s = 1010
        · rw [if_pos h10, decide_eq_true h10, if_neg T1]
          exact (j_target hb h hC hw h10).b
        · rw [if_neg h10, decide_eq_false h10, if_pos F1, w11, Option.bind_some]
          by_cases h11 : cod c n s = 1011
          · rw [if_pos h11, decide_eq_true h11, if_neg T1]
            exact (j_set hb h hC hw (q := 11) (f := 8) (a := 7) (hi := 100) (by omega) h11 (by omega) (by omega) fun x q1 q2 q3 => ⟨q1, q2⟩).b
          · rw [if_neg h11, decide_eq_false h11, if_pos F1, w12, Option.bind_some]
            by_cases h12 : cod c n s = 1012
            · rw [if_pos h12, decide_eq_true h12, if_neg T1]
              exact (j_set hb h hC hw (q := 12) (f := 9) (a := 8) (hi := 100) (by omega) h12 (by omega) (by omega) fun x q1 q2 q3 => ⟨q1, q2⟩).b
            · rw [if_neg h12, decide_eq_false h12, if_pos F1, w13, Option.bind_some]
              by_cases h13 : cod c n s = 1013
              · rw [if_pos h13, decide_eq_true h13, if_neg T1]
                exact (j_set hb h hC hw (q := 13) (f := 10) (a := 9) (hi := 30) (by omega) h13 (by omega) (by omega) fun x q1 q2 q3 => ⟨q1, q2⟩).b
              · rw [if_neg h13, decide_eq_false h13, if_pos F1, w14, Option.bind_some]
                by_cases h14 : cod c n s = 1014
                · rw [if_pos h14, decide_eq_true h14, if_neg T1]
                  exact (j_set hb h hC hw (q := 14) (f := 11) (a := 10) (hi := 20) (by omega) h14 (by omega) (by omega) fun x q1 q2 q3 => ⟨q1, q2⟩).b
                · rw [if_neg h14, decide_eq_false h14, if_pos F1, w15, Option.bind_some]
                  by_cases h15 : cod c n s = 1015
                  · rw [if_pos h15, decide_eq_true h15, if_neg T1]
                    exact (j_set hb h hC hw (q := 15) (f := 6) (a := 3) (hi := 999) (by omega) h15 (by omega) (by omega) fun x q1 q2 q3 => ⟨q1, by show _ ≤ (9999 : Int); omega⟩).br.bl
                  · rw [if_neg h15, decide_eq_false h15, if_pos F1, h.js.2, bi_some, if_pos (by decide), bi_some, if_pos (by decide)]
                    exact h.fail rfl rfl
/-- all lines: what the class and the reference come to -/
def JA (n : Nat) (σ τ : pn_S) (oc or : Option (Int32 × pn_S)) : Prop :=
  (∃ σ' τ' x, oc = some (1, σ') ∧ or = some (x, τ') ∧ 0 ≤ x.toInt ∧ σ' 1 7 = -1 ∧ CV σ' 8 (τ' 86) ∧ VW (τ' 86) ∧ FrK σ σ' ∧ FrV τ τ') ∨
  (∃ σ' τ' p, oc = some (0, σ') ∧ or = some (-1, τ') ∧ p ≤ n ∧ σ' 1 7 = nI p ∧ τ' 85 12 = nI p ∧ FrK σ σ' ∧ FrV τ τ')
theorem js_let (hb : HB c w n) {σ τ : pn_S} {k i : Nat} (h : JS c w n T P m σ τ k i) : ∃ τ', fX11_letters τ = some τ' ∧ LSt c w n T P m σ τ' k (sk c n i) ∧ FrP τ τ' := by
  obtain ⟨τ', g1, g2, g3⟩ := r_let hb h.2.1
  exact ⟨τ', g1, ⟨h.1, g2, h.2.2.1.sk (sk_sk i), h.2.2.2, sk_sk i⟩, g3⟩
theorem j_lines (hb : HB c w n) : ∀ (r l f f' : Nat) (σ τ : pn_S) (k i : Nat), l + r = 14 → r < f → r < f' → JS c w n T P m σ τ k i → CV σ 8 (τ 86) → VW (τ 86) → JA n σ τ (fX4_readLines_35_17 f 14 (nI l) σ) (fX11_readAll_28 f' 1 (nI l) τ) := by
  have h400 := hb.1
  intro r
  induction r with
  | zero =>
    intro l f f' σ τ k i hl hf hf' h hC hw
    match f, f', hf, hf' with
    | f + 1, f' + 1, _, _ =>
      have e : l = 14 := by omega
      subst e
      obtain ⟨τ1, g1, g2, g3⟩ := js_let hb h
      rw [fX4_readLines_35_17, if_pos (show (14 : Int32) ≤ nI 14 by decide), g2.js.2, bi_some, if_pos (by decide), fX11_readAll_28]
      unfold fX11_readLine fX11_readLine_16
      rw [g1, Option.bind_some, if_neg (by decide), if_pos (show (14 : Int32) ≤ nI 14 by decide), bi_some, if_pos rfl]
      exact Or.inr ⟨_, τ1, sk c n i, rfl, rfl, g2.2.1.2.2, pn_up_s _ _ _ _, g2.2.1.2.1, FrK_up (by omega), FrV_P g3⟩
  | succ r ih =>
    intro l f f' σ τ k i hl hf hf' h hC hw
    match f, f', hf, hf' with
    | f + 1, f' + 1, hf, hf' =>
      obtain ⟨τ1, g1, g2, g3⟩ := js_let hb h
      have e86 : τ1 86 = τ 86 := g3.1 86 (by omega)
      have jl := (j_line hb g2 (by rw [e86]; exact hC) (by rw [e86]; exact hw)).br
      rw [fX4_readLines_35_17, if_neg (show ¬ (14 : Int32) ≤ nI l from nI_ge (b := 14) (by omega) (by omega)), fX11_readAll_28]
      unfold fX11_readLine fX11_readLine_16
      rw [g1, Option.bind_some, if_neg (show ¬ (1 : Int32) = 0 by decide), if_neg (show ¬ (14 : Int32) ≤ nI l from nI_ge (b := 14) (by omega) (by omega)), if_neg (show ¬ (1 : Int32) = 0 by decide)]
      rcases jl with ⟨σ2, τ2, k2, i2, a1, a2, a3, a4, a5, a6, a7, a8⟩ | ⟨σ2, τ2, p, a1, a2, a3, a4, a5, a6, a7⟩
      · rw [a1, bi_some, a2, bi_some, if_neg (by decide), if_neg (by decide)]
        obtain ⟨τ3, b1, b2, b3, b4⟩ := r_blk hb a3.2.1
        have fv3 : FrV τ τ3 := ((FrV_P g3).tr a8).tr (FrV_P b4)
        have e3 : τ3 86 = τ2 86 := b4.1 86 (by omega)
        rw [c_nx a3.2.2.2 a3.1 a3.2.2.1, Option.bind_some, b1, Option.bind_some, b3.1, b3.2.1]
        obtain ⟨s1, s2⟩ := sk_le (c := c) a3.2.1.2.2.2
        have ce := cod_end hb s2
        by_cases z : sk c n i2 = n
        · rw [if_pos (ce.mpr z), if_pos (by rw [z]), nI_1]
          exact Or.inl ⟨σ2, τ3, nI (l + 1), rfl, rfl, by rw [nI_toInt (by omega)]; omega, a3.1.2.2.2.1, by rw [e3]; exact a5, by rw [e3]; exact a6, a7, fv3⟩
        · rw [if_neg (fun u => z (ce.mp u)), if_neg (fun u => z ((nI_eq (by omega) (by omega)).mp u))]
          have ra : fX11_isAt 59 59 τ3 = some (b01 (decide (cod c n (sk c n i2) = nI (2000 + 59)))) := r_at1 hb b3 (a := 59) (by omega) (by omega) (by omega)
          rw [ra, Option.bind_some]
          by_cases y : cod c n (sk c n i2) = nI (2000 + 59)
          · obtain ⟨e1, e2⟩ := sg_en hb s2 (a := 59) (by omega) (by omega) (by omega) y
            have tk : fX7_take 2059 σ2 = some (1, pn_up σ2 1 6 (nI (k2 + 1))) := (c_tk a3.2.2.2 a3.1 a3.2.2.1 _).1 y
            rw [tk, bi_some, if_neg (by decide), decide_eq_true y, if_neg (show ¬ b01 true = 0 by decide), nI_1, nI_1]
            have js : JS c w n T P m (pn_up σ2 1 6 (nI (k2 + 1))) (pn_up τ3 85 10 (nI (sk c n i2 + 1))) (k2 + 1) (en c n (sk c n i2)) := ⟨a3.1.nx, by rw [e1]; exact b3.up (FrP_up (Or.inl rfl)) (pn_up_s _ _ _ _) (by omega), a3.2.2.1.to.2.2.2 e2, a3.2.2.2⟩
            have e86' : pn_up τ3 85 10 (nI (sk c n i2 + 1)) 86 = τ2 86 := by rw [pn_up_a _ _ _ _ (by omega)]; exact e3
            have fv4 : FrV τ (pn_up τ3 85 10 (nI (sk c n i2 + 1))) := fv3.tr (FrV_P (FrP_up (Or.inl rfl)))
            have fk4 : FrK σ (pn_up σ2 1 6 (nI (k2 + 1))) := a7.tr (FrK_up (by omega))
            have := ih (l + 1) f f' (pn_up σ2 1 6 (nI (k2 + 1))) (pn_up τ3 85 10 (nI (sk c n i2 + 1))) (k2 + 1) (en c n (sk c n i2)) (by omega) (by omega) (by omega) js (by rw [e86']; exact cv_fr a5 (pn_up_a _ _ _ _ (by omega)) (pn_up_a _ _ _ _ (by omega)) (pn_up_a _ _ _ _ (by omega))) (by rw [e86']; exact a6)
            rcases this with ⟨σ', τ', x, c1, c2, c3, c4, c5, c6, c7, c8⟩ | ⟨σ', τ', p, c1, c2, c3, c4, c5, c6, c7⟩
            · exact Or.inl ⟨σ', τ', x, c1, c2, c3, c4, c5, c6, fk4.tr c7, fv4.tr c8⟩
            · exact Or.inr ⟨σ', τ', p, c1, c2, c3, c4, c5, fk4.tr c6, fv4.tr c7⟩
          · have tk : fX7_take 2059 σ2 = some (0, σ2) := (c_tk a3.2.2.2 a3.1 a3.2.2.1 _).2 y
            rw [tk, bi_some, if_pos rfl, c_fl a3.2.2.2 a3.1 a3.2.2.1, bi_some, if_pos (by decide), decide_eq_false y, if_pos (show b01 false = 0 from rfl)]
            exact Or.inr ⟨_, τ3, sk c n i2, rfl, rfl, s2, pn_up_s _ _ _ _, b2, a7.tr (FrK_up (by omega)), fv3⟩
      · rw [a1, bi_some, a2, bi_some, if_pos rfl, if_pos rfl]
        exact Or.inr ⟨σ2, τ2, p, rfl, rfl, a3, a4, a5, a6, (FrV_P g3).tr a7⟩
/-- the whole text -/
theorem j_all (hb : HB c w n) {σ τ : pn_S} (h : JS c w n T P m σ τ 0 0) (hC : CV σ 8 (τ 86)) (hw : VW (τ 86)) : JA n σ τ (fX4_readLines_35 14 σ) ((fX11_blanks τ).bind fun σ2 => if (σ2 85 10) = (σ2 85 11) then some ((0 : Int32), σ2) else fX11_readAll_28 5000 1 (0 : Int32) σ2) := by
  have h400 := hb.1
  obtain ⟨τ3, b1, b2, b3, b4⟩ := r_blk hb h.2.1
  have e3 : τ3 86 = τ 86 := b4.1 86 (by omega)
  obtain ⟨s1, s2⟩ := sk_le (c := c) h.2.1.2.2.2
  have ce := cod_end hb s2
  unfold fX4_readLines_35
  rw [c_nx h.2.2.2 h.1 h.2.2.1, Option.bind_some, b1, Option.bind_some, b3.1, b3.2.1]
  by_cases z : sk c n 0 = n
  · rw [if_pos (ce.mpr z), if_pos (by rw [z])]
    exact Or.inl ⟨σ, τ3, 0, rfl, rfl, by decide, h.1.2.2.2.1, by rw [e3]; exact hC, by rw [e3]; exact hw, FrK.rf, FrV_P b4⟩
  · rw [if_neg (fun u => z (ce.mp u)), if_neg (fun u => z ((nI_eq (by omega) (by omega)).mp u))]
    have js : JS c w n T P m σ τ3 0 (sk c n 0) := ⟨h.1, b3, h.2.2.1.sk (sk_sk 0), h.2.2.2⟩
    have := j_lines hb 14 0 5000 5000 σ τ3 0 (sk c n 0) (by omega) (by omega) (by omega) js (by rw [e3]; exact hC) (by rw [e3]; exact hw)
    rcases this with ⟨σ', τ', x, c1, c2, c3, c4, c5, c6, c7, c8⟩ | ⟨σ', τ', p, c1, c2, c3, c4, c5, c6, c7⟩
    · exact Or.inl ⟨σ', τ', x, c1, c2, c3, c4, c5, c6, c7, (FrV_P b4).tr c8⟩
    · exact Or.inr ⟨σ', τ', p, c1, c2, c3, c4, c5, c6, (FrV_P b4).tr c7⟩
end
/-- the class's text, split -/
theorem c_text {σ : pn_S} {h : Bool} {Λ : pn_La} (hI : Inv σ h Λ) {n : Nat} (hn : n ≤ 400) (t2 : σ 1 3 = nI n) (t4 : ∀ i, i < n → σ 2 i = σ 91 i &&& 255 ∧ rg (σ 91 i) (-128) 127) : ∃ σ2 m, (fX7_useUp σ).bind (fun σ1 => fX7_split σ1) = some σ2 ∧ CJ n (σ2 3) (σ2 4) m 0 σ2 ∧ TK (fun i => σ 91 i &&& 255) n (σ2 3) (σ2 4) m 0 0 ∧ m ≤ 401 ∧ σ2 1 3 = 0 ∧ Fr (fun i => i = 1 ∨ i = 3 ∨ i = 4) σ σ2 := by
  have e : (fX7_useUp σ).bind (fun σ1 => fX7_split σ1) = fX7_split_17 5000 0 (pn_up (pn_up (pn_up (pn_up (pn_up σ 1 4 (σ 1 3)) 1 3 0) 1 5 0) 1 6 0) 1 7 (-1)) := rfl
  obtain ⟨σ2, m, g1, g2, g3, g4, g5, g6, g7⟩ := c_split (c := fun i => σ 91 i &&& 255) hn n 0 0 5000 (pn_up (pn_up (pn_up (pn_up (pn_up σ 1 4 (σ 1 3)) 1 3 0) 1 5 0) 1 6 0) 1 7 (-1)) (by omega) (by omega) (by omega) (by omega) (by rw [pn_up_k _ _ _ _ (by omega), pn_up_k _ _ _ _ (by omega), pn_up_k _ _ _ _ (by omega), pn_up_k _ _ _ _ (by omega), pn_up_s, t2]) (fun i hi => by rw [pn_up_a _ _ _ _ (by omega), pn_up_a _ _ _ _ (by omega), pn_up_a _ _ _ _ (by omega), pn_up_a _ _ _ _ (by omega), pn_up_a _ _ _ _ (by omega)]; exact (t4 i hi).1) (by rw [pn_up_k _ _ _ _ (by omega), pn_up_k _ _ _ _ (by omega), pn_up_s]; rfl)
  refine ⟨σ2, m, e.trans g1, ⟨?_, g4, ?_, ?_, rfl, rfl⟩, g3, g5, ?_, ?_⟩
  · rw [g6 4 (by omega), pn_up_k _ _ _ _ (by omega), pn_up_k _ _ _ _ (by omega), pn_up_k _ _ _ _ (by omega), pn_up_k _ _ _ _ (by omega), pn_up_s, t2]
  · rw [g6 6 (by omega), pn_up_k _ _ _ _ (by omega), pn_up_s]; rfl
  · rw [g6 7 (by omega), pn_up_s]
  · rw [g6 3 (by omega), pn_up_k _ _ _ _ (by omega), pn_up_k _ _ _ _ (by omega), pn_up_k _ _ _ _ (by omega), pn_up_s]
  · intro i hi
    rw [g7 i hi, pn_up_a _ _ _ _ (by omega), pn_up_a _ _ _ _ (by omega), pn_up_a _ _ _ _ (by omega), pn_up_a _ _ _ _ (by omega), pn_up_a _ _ _ _ (by omega)]
