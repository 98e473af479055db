/-! PURE: conditions, whole -/
section
variable {c w : Nat → Int32} {n : Nat} {T P : Nat → Int32} {m L : Nat}
def KK (gA : Int32 → pn_S → Option (Int32 × pn_S)) (rec7 : Int32 → Int32 → Int32 → Int32 → pn_S → Option (Int32 × pn_S)) (l1 l2 l4 : Int32) (σ : pn_S) : Option (Int32 × pn_S) :=
  if l2 = 0 then fX3_readCondition_68 gA rec7 l1 0 l4 σ else (fX2_addCode 21 (1020 : Int32) σ).bind fun σ11 => fX3_readCondition_68 gA rec7 l1 0 l4 σ11
def HA (c w : Nat → Int32) (n : Nat) (T P : Nat → Int32) (m L d : Nat) (gA : Int32 → pn_S → Option (Int32 × pn_S)) (gA' : pn_S → Option (Int32 × pn_S)) : Prop :=
  ∀ (σ τ : pn_S) (k i S : Nat), JS c w n T P m σ τ k i → MD σ τ L S → S + 2 ≤ i → τ 85 13 = nI d → JC c w n T P m (AtO d) L σ τ i S (gA (nI d) σ) (gA' τ)
theorem j_and (hb : HB c w n) {d : Nat} {gA : Int32 → pn_S → Option (Int32 × pn_S)} {gA' : pn_S → Option (Int32 × pn_S)} (hA : HA c w n T P m L d gA gA') (l2 : Int32) : ∀ (D i f f' l4 : Nat) (σ τ : pn_S) (k S : Nat), n - i = D → D < f → D < f' → l4 + 2 ≤ i → JS c w n T P m σ τ k i → MD σ τ L S → S + 2 ≤ i → τ 85 13 = nI d →
    (∃ σ' τ' k' i' S' f2 l4', fX3_readCondition_39 gA (fX3_readCondition_7 gA f) (nI d) l2 (nI l4) σ = KK gA (fX3_readCondition_7 gA f2) (nI d) l2 (nI l4') σ' ∧ fX11_readAllOf_9 gA' f' τ = some (1, τ') ∧ JS c w n T P m σ' τ' k' i' ∧ MD σ' τ' L S' ∧ S ≤ S' ∧ S' + i ≤ S + i' ∧ n - i' < f2 ∧ l4' + 2 ≤ i' ∧ TaO d 4 (sg (σ' 25) S S') ∧ StK L S σ σ' ∧ StR S τ τ') ∨
    (∃ σ' τ' p, fX3_readCondition_39 gA (fX3_readCondition_7 gA f) (nI d) l2 (nI l4) σ = some (0, σ') ∧ fX11_readAllOf_9 gA' f' τ = some (0, τ') ∧ p ≤ n ∧ σ' 1 7 = nI p ∧ τ' 85 12 = nI p ∧ Sane σ' L ∧ WkK σ σ' ∧ WkR τ τ') := by
  have hn := hb.1
  have I10 : ¬ (1 : Int32) = 0 := by decide
  intro D
  induction D using Nat.strongRecOn with
  | ind D ih =>
    intro i f f' l4 σ τ k S hD hf hf' hl h hM hS h13
    match f, f', hf, hf' with
    | f + 1, f' + 1, hf, hf' =>
      unfold fX3_readCondition_39
      rw [fX11_readAllOf_9]
      rcases j_pass hb h (q := 21) (by omega) with ⟨i1, τ1, z, a1, a2, a3, a4, a5, _⟩ | ⟨τ1, z, a1, a2, a3, a4, _⟩
      · have a1 : fX7_take 1021 σ = some (1, pn_up σ 1 6 (nI (k + 1))) := a1
        have a2 : fX11_passes 26 τ = some (1, τ1) := a2
        have f1 : Fr1 σ (pn_up σ 1 6 (nI (k + 1))) := Fr1_up (by omega)
        have md1 : MD (pn_up σ 1 6 (nI (k + 1))) τ1 L S := hM.fr f1 a4
        have hin := a3.2.1.2.2.2
        rw [a1, bi_some, if_neg I10, a2, bi_some, if_neg I10, nI_1, fX3_readCondition_7, if_neg (show ¬ (400 : Int32) ≤ nI (l4 + 1) from nI_ge (b := 400) (by omega) (by omega))]
        rcases hA _ _ _ _ _ a3 md1 (by omega) ((a4.2 13 (by omega) (by omega)).trans h13) with ⟨σ2, τ2, k2, i2, S2, d1, d2, d3, d4, d5, d6, d7, d8, d9⟩ | ⟨σ2, τ2, p, d1, d2, d3, d4, d5, d6, d7, d8⟩
        · have hin2 := d3.2.1.2.2.2
          obtain ⟨σ3, τ3, c1, c2, c3, c4, c5, c6, c7, c8, c9⟩ := j_emi d4 (by omega) (op := 1021) (x := 15) (y := 0) (by decide) (fun u => absurd u (by decide))
          rw [d1, bi_some, if_neg I10, if_neg I10, c1, Option.bind_some, d2, bi_some, if_neg I10, c2, Option.bind_some]
          have stk : StK L S σ σ3 := ((StK_1 f1).tr d8 (Nat.le_refl _)).tr c5 (by omega)
          have str : StR S τ τ3 := ((StR_P a4).tr d9 (Nat.le_refl _)).tr c6 (by omega)
          rcases ih (n - i2) (by omega) i2 f f' (l4 + 1) σ3 τ3 k2 (S2 + 1) rfl (by omega) (by omega) (by omega) (js_emi d3 c7 c8 c9) c3 (by omega) (str.2.2.trans h13) with ⟨σ', τ', k', i', S', f2, l4', e1, e2, e3, e4, e5, e6, e7, e8, e9, e10, e11⟩ | ⟨σ', τ', p, e1, e2, e3, e4, e5, e6, e7, e8⟩
          · refine Or.inl ⟨σ', τ', k', i', S', f2, l4', e1, e2, e3, e4, by omega, by omega, e7, e8, ?_, stk.tr e10 (by omega), str.tr e11 (by omega)⟩
            have x0 : sg (σ' 25) S S2 = sg (σ2 25) S S2 := sg_c fun j q1 q2 => by rw [e10.2.2.1 j (by omega), c5.2.2.1 j q2]
            have x1 : σ' 25 S2 = 1021 := by rw [e10.2.2.1 S2 (by omega)]; exact c4
            rw [sg_app (σ' 25) d5 (show S2 ≤ S' by omega), sg_app (σ' 25) (show S2 ≤ S2 + 1 by omega) e5, sg_one, x1, x0]
            intro F hF st a ha hst
            obtain ⟨v, hv, hv2⟩ := d7 F hF (a :: st) (by rw [List.length_cons]; omega)
            obtain ⟨u, hu, hu2⟩ := ex_and F ha hv st
            rw [exL_app, hv2, Option.bind_some, exL_app, exL_1, hu2, Option.bind_some]
            exact e9 F hF st u hu hst
          · exact Or.inr ⟨σ', τ', p, e1, e2, e3, e4, e5, e6, stk.1.tr e7, str.1.tr e8⟩
        · rw [d1, bi_some, if_pos rfl, d2, bi_some, if_pos rfl]
          exact Or.inr ⟨σ2, τ2, p, rfl, rfl, d3, d4, d5, d6, (StK_1 (L := L) (S := S) f1).1.tr d7, (StR_P (S := S) a4).1.tr d8⟩
      · have a1 : fX7_take 1021 σ = some (0, σ) := a1
        have a2 : fX11_passes 26 τ = some (0, τ1) := a2
        rw [a1, bi_some, if_pos rfl, a2, bi_some, if_pos rfl]
        have le := (sk_le (c := c) h.2.1.2.2.2).1
        refine Or.inl ⟨σ, τ1, k, _, S, f + 1, l4, rfl, rfl, a3, hM.fr Fr1.rf a4, Nat.le_refl _, by omega, by omega, by omega, ?_, StK.rf, StR_P a4⟩
        rw [sg_self]
        exact fun F _ st a ha _ => ⟨a, ha, rfl⟩
theorem j_or (hb : HB c w n) {d : Nat} {gA : Int32 → pn_S → Option (Int32 × pn_S)} {gA' : pn_S → Option (Int32 × pn_S)} (hA : HA c w n T P m L d gA gA') : ∀ (D i f f' l4 : Nat) (σ τ : pn_S) (k S : Nat), n - i = D → D < f → D < f' → l4 + 2 ≤ i → JS c w n T P m σ τ k i → MD σ τ L S → S + 2 ≤ i → τ 85 13 = nI d →
    JC c w n T P m (TaO d 5) L σ τ i S (fX3_readCondition_68 gA (fX3_readCondition_7 gA f) (nI d) 0 (nI l4) σ) (fX11_readCond_9 (fX11_readAllOf gA') f' τ) := by
  have hn := hb.1
  have I10 : ¬ (1 : Int32) = 0 := by decide
  intro D
  induction D using Nat.strongRecOn with
  | ind D ih =>
    intro i f f' l4 σ τ k S hD hf hf' hl h hM hS h13
    match f, f', hf, hf' with
    | f + 1, f' + 1, hf, hf' =>
      unfold fX3_readCondition_68
      rw [fX11_readCond_9]
      rcases j_pass hb h (q := 20) (by omega) with ⟨i1, τ1, z, a1, a2, a3, a4, a5, _⟩ | ⟨τ1, z, a1, a2, a3, a4, _⟩
      · have a1 : fX7_take 1020 σ = some (1, pn_up σ 1 6 (nI (k + 1))) := a1
        have a2 : fX11_passes 27 τ = some (1, τ1) := a2
        have f1 : Fr1 σ (pn_up σ 1 6 (nI (k + 1))) := Fr1_up (by omega)
        have md1 : MD (pn_up σ 1 6 (nI (k + 1))) τ1 L S := hM.fr f1 a4
        have hin := a3.2.1.2.2.2
        unfold fX11_readAllOf
        rw [a1, bi_some, if_neg I10, a2, bi_some, if_neg I10, nI_1, fX3_readCondition_7, if_neg (show ¬ (400 : Int32) ≤ nI (l4 + 1) from nI_ge (b := 400) (by omega) (by omega))]
        rcases hA _ _ _ _ _ a3 md1 (by omega) ((a4.2 13 (by omega) (by omega)).trans h13) with ⟨σ2, τ2, k2, i2, S2, d1, d2, d3, d4, d5, d6, d7, d8, d9⟩ | ⟨σ2, τ2, p, d1, d2, d3, d4, d5, d6, d7, d8⟩
        · have hin2 := d3.2.1.2.2.2
          have stk2 : StK L S σ σ2 := (StK_1 f1).tr d8 (Nat.le_refl _)
          have str2 : StR S τ τ2 := (StR_P a4).tr d9 (Nat.le_refl _)
          rw [d1, bi_some, if_neg I10, if_pos rfl, d2, bi_some, if_neg I10]
          rcases j_and hb hA 1 (n - i2) i2 f 5000 (l4 + 1) σ2 τ2 k2 S2 rfl (by omega) (by omega) (by omega) d3 d4 (by omega) (str2.2.2.trans h13) with ⟨σ3, τ3, k3, i3, S3, f3, l3, e1, e2, e3, e4, e5, e6, e7, e8, e9, e10, e11⟩ | ⟨σ3, τ3, p, e1, e2, e3, e4, e5, e6, e7, e8⟩
          · have hin3 := e3.2.1.2.2.2
            obtain ⟨σ4, τ4, c1, c2, c3, c4, c5, c6, c7, c8, c9⟩ := j_emi e4 (by omega) (op := 1020) (x := 16) (y := 0) (by decide) (fun u => absurd u (by decide))
            unfold KK at e1
            rw [if_neg I10, c1, Option.bind_some] at e1
            rw [e1, e2, bi_some, if_neg I10, c2, Option.bind_some]
            have stk : StK L S σ σ4 := (stk2.tr e10 (by omega)).tr c5 (by omega)
            have str : StR S τ τ4 := (str2.tr e11 (by omega)).tr c6 (by omega)
            rcases ih (n - i3) (by omega) i3 f3 f' l3 σ4 τ4 k3 (S3 + 1) rfl (by omega) (by omega) (by omega) (js_emi e3 c7 c8 c9) c3 (by omega) (str.2.2.trans h13) with ⟨σ', τ', k', i', S', g1, g2, g3, g4, g5, g6, g7, g8, g9⟩ | ⟨σ', τ', p, g1, g2, g3, g4, g5, g6, g7, g8⟩
            · refine Or.inl ⟨σ', τ', k', i', S', g1, g2, g3, g4, by omega, by omega, ?_, stk.tr g8 (by omega), str.tr g9 (by omega)⟩
              have x0 : sg (σ' 25) S S2 = sg (σ2 25) S S2 := sg_c fun j q1 q2 => by rw [g8.2.2.1 j (by omega), c5.2.2.1 j (by omega), e10.2.2.1 j q2]
              have x1 : sg (σ' 25) S2 S3 = sg (σ3 25) S2 S3 := sg_c fun j q1 q2 => by rw [g8.2.2.1 j (by omega), c5.2.2.1 j (by omega)]
              have x2 : σ' 25 S3 = 1020 := by rw [g8.2.2.1 S3 (by omega)]; exact c4
              rw [sg_app (σ' 25) d5 (show S2 ≤ S' by omega), sg_app (σ' 25) e5 (show S3 ≤ S' by omega), sg_app (σ' 25) (show S3 ≤ S3 + 1 by omega) g5, sg_one, x2, x1, x0]
              intro F hF st a ha hst
              obtain ⟨v, hv, hv2⟩ := d7 F hF (a :: st) (by rw [List.length_cons]; omega)
              obtain ⟨u, hu, hu2⟩ := e9 F hF (a :: st) v hv (by rw [List.length_cons]; omega)
              obtain ⟨t, ht, ht2⟩ := ex_or F ha hu st
              rw [exL_app, hv2, Option.bind_some, exL_app, hu2, Option.bind_some, exL_app, exL_1, ht2, Option.bind_some]
              exact g7 F hF st t ht hst
            · exact Or.inr ⟨σ', τ', p, g1, g2, g3, g4, g5, g6, stk.1.tr g7, str.1.tr g8⟩
          · rw [e1, e2, bi_some, if_pos rfl]
            exact Or.inr ⟨σ3, τ3, p, rfl, rfl, e3, e4, e5, e6, stk2.1.tr e7, str2.1.tr e8⟩
        · rw [d1, bi_some, if_pos rfl, d2, bi_some, if_pos rfl, bi_some, if_pos rfl]
          exact Or.inr ⟨σ2, τ2, p, rfl, rfl, d3, d4, d5, d6, (StK_1 (L := L) (S := S) f1).1.tr d7, (StR_P (S := S) a4).1.tr d8⟩
      · have a1 : fX7_take 1020 σ = some (0, σ) := a1
        have a2 : fX11_passes 27 τ = some (0, τ1) := a2
        rw [a1, bi_some, if_pos rfl, a2, bi_some, if_pos rfl]
        have le := (sk_le (c := c) h.2.1.2.2.2).1
        refine Or.inl ⟨σ, τ1, k, _, S, rfl, rfl, a3, hM.fr Fr1.rf a4, Nat.le_refl _, by omega, ?_, StK.rf, StR_P a4⟩
        rw [sg_self]
        exact fun F _ st a ha _ => ⟨a, ha, rfl⟩
theorem j_cnd (hb : HB c w n) {d : Nat} {gA : Int32 → pn_S → Option (Int32 × pn_S)} {gA' : pn_S → Option (Int32 × pn_S)} (hA : HA c w n T P m L d gA gA') {σ τ : pn_S} {k i S : Nat} (h : JS c w n T P m σ τ k i) (hM : MD σ τ L S) (hi : S + 2 ≤ i) (h13 : τ 85 13 = nI d) : JC c w n T P m (CoO d) L σ τ i S (fX3_readCondition gA (nI d) σ) (fX11_readCond (fX11_readAllOf gA') τ) := by
  have hn := hb.1
  have I10 : ¬ (1 : Int32) = 0 := by decide
  unfold fX3_readCondition fX11_readCond
  rw [fX3_readCondition_7, if_neg (show ¬ (400 : Int32) ≤ 0 by decide)]
  rw [show fX11_readAllOf gA' τ = pn_bi (gA' τ) fun x1 σ1 => if x1 = 0 then some ((0 : Int32), σ1) else fX11_readAllOf_9 gA' 5000 σ1 from rfl]
  rcases hA _ _ _ _ _ h hM hi h13 with ⟨σ2, τ2, k2, i2, S2, d1, d2, d3, d4, d5, d6, d7, d8, d9⟩ | ⟨σ2, τ2, p, d1, d2, d3, d4, d5, d6, d7, d8⟩
  · have hin2 := d3.2.1.2.2.2
    rw [d1, bi_some, if_neg I10, if_pos rfl, d2, bi_some, if_neg I10]
    rcases j_and hb hA 0 (n - i2) i2 4999 5000 0 σ2 τ2 k2 S2 rfl (by omega) (by omega) (by omega) d3 d4 (by omega) (d9.2.2.trans h13) with ⟨σ3, τ3, k3, i3, S3, f3, l3, e1, e2, e3, e4, e5, e6, e7, e8, e9, e10, e11⟩ | ⟨σ3, τ3, p, e1, e2, e3, e4, e5, e6, e7, e8⟩
    · have hin3 := e3.2.1.2.2.2
      have e1 : fX3_readCondition_39 gA (fX3_readCondition_7 gA 4999) (nI d) 0 0 σ2 = _ := e1
      unfold KK at e1
      rw [if_pos rfl] at e1
      rw [e1, e2, bi_some, if_neg I10]
      have stk : StK L S σ σ3 := d8.tr e10 (by omega)
      have str : StR S τ τ3 := d9.tr e11 (by omega)
      rcases j_or hb hA (n - i3) i3 f3 5000 l3 σ3 τ3 k3 S3 rfl (by omega) (by omega) (by omega) e3 e4 (by omega) (str.2.2.trans h13) with ⟨σ', τ', k', i', S', g1, g2, g3, g4, g5, g6, g7, g8, g9⟩ | ⟨σ', τ', p, g1, g2, g3, g4, g5, g6, g7, g8⟩
      · refine Or.inl ⟨σ', τ', k', i', S', g1, g2, g3, g4, by omega, by omega, ?_, stk.tr g8 (by omega), str.tr g9 (by omega)⟩
        have x0 : sg (σ' 25) S S2 = sg (σ2 25) S S2 := sg_c fun j q1 q2 => by rw [g8.2.2.1 j (by omega), e10.2.2.1 j q2]
        have x1 : sg (σ' 25) S2 S3 = sg (σ3 25) S2 S3 := sg_c fun j q1 q2 => by rw [g8.2.2.1 j (by omega)]
        rw [sg_app (σ' 25) d5 (show S2 ≤ S' by omega), sg_app (σ' 25) e5 g5, x1, x0]
        intro F hF st hst
        obtain ⟨v, hv, hv2⟩ := d7 F hF st (by omega)
        obtain ⟨u, hu, hu2⟩ := e9 F hF st v hv (by omega)
        rw [exL_app, hv2, Option.bind_some, exL_app, hu2, Option.bind_some]
        exact g7 F hF st u hu hst
      · exact Or.inr ⟨σ', τ', p, g1, g2, g3, g4, g5, g6, stk.1.tr g7, str.1.tr g8⟩
    · have e1 : fX3_readCondition_39 gA (fX3_readCondition_7 gA 4999) (nI d) 0 0 σ2 = _ := e1
      rw [e1, e2, bi_some, if_pos rfl]
      exact Or.inr ⟨σ3, τ3, p, rfl, rfl, e3, e4, e5, e6, d8.1.tr e7, d9.1.tr e8⟩
  · rw [d1, bi_some, if_pos rfl, d2, bi_some, if_pos rfl, bi_some, if_pos rfl]
    exact Or.inr ⟨σ2, τ2, p, rfl, rfl, d3, d4, d5, d6, d7, d8⟩
theorem j_rec (hb : HB c w n) : ∀ (e d f f' : Nat), d + e = 6 → 2 * e + 1 ≤ f → 3 * e + 1 ≤ f' → HA c w n T P m L d (fX3_both f).2 (fX11_both f').2.2 := by
  intro e
  induction e with
  | zero =>
    intro d f f' hd hf hf'
    match f, f', hf, hf' with
    | f + 1, f' + 1, hf, hf' =>
      intro σ τ k i S h hM hS h13
      rw [fX3_both, fX11_both]
      exact j_atom hb (by omega) (fun u => by omega) (fun u => by omega) h hM hS h13
  | succ e ih =>
    intro d f f' hd hf hf'
    match f, f', hf, hf' with
    | f + 1 + 1, f' + 1 + 1 + 1, hf, hf' =>
      intro σ τ k i S h hM hS h13
      rw [fX3_both, fX11_both]
      refine j_atom hb (by omega) (fun _ σ τ k i S h hM hS h13 => ?_) (fun _ => ih (d + 1) _ _ (by omega) (by omega) (by omega)) h hM hS h13
      rw [fX3_both, fX11_both, fX11_both]
      exact j_cnd hb (ih (d + 1) f f' (by omega) (by omega) (by omega)) h hM hS h13
theorem j_cond (hb : HB c w n) {σ τ : pn_S} {k i S : Nat} (h : JS c w n T P m σ τ k i) (hM : MD σ τ L S) (hi : S + 2 ≤ i) (h13 : τ 85 13 = 0) : JC c w n T P m (CoO 0) L σ τ i S (fX3_cond 0 σ) (fX11_cond τ) := by
  unfold fX3_cond fX11_cond
  rw [show (40 : Nat) = 39 + 1 from rfl, fX3_both, fX11_both, show (39 : Nat) = 38 + 1 from rfl, fX11_both]
  exact j_cnd hb (d := 0) (j_rec hb 6 0 (38 + 1) 38 (by omega) (by omega) (by omega)) h hM hi h13
end
