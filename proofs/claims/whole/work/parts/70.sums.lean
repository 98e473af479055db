/-! PURE: sums and comparisons -/
section
variable {c w : Nat → Int32} {n : Nat} {T P : Nat → Int32} {m L : Nat}
theorem j_part (hb : HB c w n) {σ τ : pn_S} {k i S : Nat} (h : JS c w n T P m σ τ k i) (hM : MD σ τ L S) (hi : S + 2 ≤ i) :
    (∃ op σ1 τ1 i', fX7_nextThing σ = some op ∧ fX3_isSumPart op σ = some 1 ∧ fX7_take op σ = some (1, pn_up σ 1 6 (nI (k + 1))) ∧ fX2_addCode 21 op (pn_up σ 1 6 (nI (k + 1))) = some σ1 ∧ fX11_readPart τ = some (1, τ1) ∧ JS c w n T P m σ1 τ1 (k + 1) i' ∧ MD σ1 τ1 L (S + 1) ∧ i < i' ∧ isS op ∧ σ1 25 S = op ∧ StK L S σ σ1 ∧ StR S τ τ1) ∨
    (∃ op τ1 p, fX7_nextThing σ = some op ∧ fX3_isSumPart op σ = some 0 ∧ fX7_fail σ = some (0, pn_up σ 1 7 (nI p)) ∧ fX11_readPart τ = some (0, τ1) ∧ p ≤ n ∧ τ1 85 12 = nI p ∧ WkR τ τ1) := by
  have hn := hb.1
  obtain ⟨h1, h2, h3, h4⟩ := id h
  obtain ⟨s1, s2⟩ := sk_le (c := c) h2.2.2.2
  have hS : S < 400 := by have := h2.2.2.2; omega
  obtain ⟨τ1, g1, g2, g3⟩ := r_part hb h2 hM.2.2.2.2.2.2.1 hS
  have gt := en_gt c (n := n) (s := sk c n i)
  rcases g3 with ⟨z, rj, y, hy, e⟩ | ⟨z, x, y, e⟩
  · have hlt : sk c n i < n := by
      rcases Nat.lt_or_ge (sk c n i) n with q | q
      · exact q
      · have := rj.2.2.2; omega
    have f1 : Fr1 σ (pn_up σ 1 6 (nI (k + 1))) := Fr1_up (by omega)
    have md1 : MD (pn_up σ 1 6 (nI (k + 1))) τ1 L S := hM.fr f1 g1
    obtain ⟨σ2, τ2, a1, a2, a3, a4, a5, a6, a7, a8, a9⟩ := j_emi md1 hS (op := cod c n (sk c n i)) (x := tS (cod c n (sk c n i))) (y := y) rfl hy
    have js : JS c w n T P m (pn_up σ 1 6 (nI (k + 1))) τ1 (k + 1) (en c n (sk c n i)) := ⟨h1.nx, rj, h3.to.2.2.2 hlt, h4⟩
    exact Or.inl ⟨_, σ2, τ2, en c n (sk c n i), c_nx h4 h1 h3, (c_isS _ _).1 z, (c_tk h4 h1 h3 _).1 rfl, a1, by rw [e, a2, Option.bind_some], js_emi js a7 a8 a9, a3, by omega, z, a4, (StK_1 f1).tr a5 (Nat.le_refl _), (StR_P g1).tr a6 (Nat.le_refl _)⟩
  · have e16 : τ1 85 16 = nI S := (g1.2 16 (by omega) (by omega)).trans hM.2.2.2.2.2.2.1
    refine Or.inr ⟨_, _, sk c n i, c_nx h4 h1 h3, (c_isS _ _).2 z, c_fl h4 h1 h3, by rw [e, r_emi e16 hS, Option.bind_some], s2, ?_, ?_⟩
    · rw [pn_up_k _ _ _ _ (by omega), pn_up_a _ _ _ _ (by omega), pn_up_a _ _ _ _ (by omega)]; exact g2
    · refine ⟨fun i q1 q2 => ?_, fun k q1 q2 q3 q4 => ?_, fun k hk => ?_⟩
      · rw [pn_up_a _ _ _ _ q1, pn_up_a _ _ _ _ q2, pn_up_a _ _ _ _ q2, g1.1 i q1]
      · rw [pn_up_k _ _ _ _ q4, pn_up_a _ _ _ _ (by omega), pn_up_a _ _ _ _ (by omega), g1.2 k q1 q2]
      · rw [pn_up_a _ _ _ _ (by omega), pn_up_k _ _ _ _ (by omega), pn_up_k _ _ _ _ (by omega), g1.1 86 (by omega)]
theorem ex_add (F : Nat → Int32) (a b : Int32) (r : List Int32) : ex1 F 2043 (b :: a :: r) = some ((a + b) :: r) := rfl
theorem exL_1 (F : Nat → Int32) (op : Int32) (st : List Int32) : exL F [op] st = ex1 F op st := by
  show (ex1 F op st).bind (exL F []) = _
  cases ex1 F op st <;> rfl
def TlO (seg : List Int32) : Prop := ∀ (F : Nat → Int32) (st : List Int32) (v : Int32), st.length + 2 ≤ 31 → ∃ v', exL F seg (v :: st) = some (v' :: st)
def SmO (seg : List Int32) : Prop := ∀ (F : Nat → Int32) (st : List Int32), st.length + 2 ≤ 31 → ∃ v', exL F seg st = some (v' :: st)
theorem fail37 {σ : pn_S} {p : Nat} (h : fX7_fail σ = some (0, pn_up σ 1 7 (nI p))) : fX3_readSum_37 σ = some (0, pn_up σ 1 7 (nI p)) := by
  unfold fX3_readSum_37
  rw [h, bi_some, if_pos (by decide)]
theorem sane_7 {σ τ : pn_S} {S p : Nat} (h : MD σ τ L S) : Sane (pn_up σ 1 7 (nI p)) L := h.sane.fr (pn_up_a _ _ _ _ (by omega))
theorem wk_7 {σ : pn_S} {x : Int32} : WkK σ (pn_up σ 1 7 x) := (StK_1 (L := 0) (S := 0) (Fr1_up (by omega))).1
theorem j_tail (hb : HB c w n) : ∀ (d i f f' l2 : Nat) (σ τ : pn_S) (k S : Nat), n - i = d → d < f → d < f' → l2 + 2 ≤ i → JS c w n T P m σ τ k i → MD σ τ L S → S + 2 ≤ i → JC c w n T P m TlO L σ τ i S (fX3_readSum_67 (fX3_readSum_4 f) (nI l2) σ) (fX11_readSum_9 f' τ) := by
  have hn := hb.1
  intro d
  induction d using Nat.strongRecOn with
  | ind d ih =>
    intro i f f' l2 σ τ k S hd hf hf' hl h hM hS
    match f, f', hf, hf' with
    | f + 1, f' + 1, hf, hf' =>
      unfold fX3_readSum_67
      rw [fX11_readSum_9]
      rcases j_sign hb h (a := 43) (by omega) (by omega) (by omega) with ⟨i1, τ1, z, a1, a2, a3, a4, a5, _⟩ | ⟨τ1, z, a1, a2, a3, a4, _⟩
      · have a1 : fX7_take 2043 σ = some (1, pn_up σ 1 6 (nI (k + 1))) := a1
        have a2 : fX11_sign 43 τ = some (1, τ1) := a2
        have f1 : Fr1 σ (pn_up σ 1 6 (nI (k + 1))) := Fr1_up (by omega)
        have md1 : MD (pn_up σ 1 6 (nI (k + 1))) τ1 L S := hM.fr f1 a4
        have hin := a3.2.1.2.2.2
        rw [a1, bi_some, if_neg (by decide), a2, bi_some, if_neg (by decide), nI_1, fX3_readSum_4, if_neg (show ¬ (400 : Int32) ≤ nI (l2 + 1) from nI_ge (b := 400) (by omega) (by omega))]
        rcases j_part hb a3 md1 (by omega) with ⟨op, σ2, τ2, i2, b1, b2, b3, b4, b5, b6, b7, b8, b9, b10, b11, b12⟩ | ⟨op, τ2, p, b1, b2, b3, b4, b5, b6, b7⟩
        · have hin2 := b6.2.1.2.2.2
          obtain ⟨σ3, τ3, c1, c2, c3, c4, c5, c6, c7, c8, c9⟩ := j_emi b7 (by omega) (op := 2043) (x := 11) (y := 0) (by decide) (fun u => absurd u (by decide))
          rw [b1, Option.bind_some, b2, Option.bind_some, if_neg (by decide), b3, bi_some, if_neg (by decide), b4, Option.bind_some, if_neg (by decide), c1, Option.bind_some, b5, bi_some, if_neg (by decide), c2, Option.bind_some]
          have js3 := js_emi b6 c7 c8 c9
          have := ih (n - i2) (by omega) i2 f f' (l2 + 1) σ3 τ3 (k + 1 + 1) (S + 1 + 1) rfl (by omega) (by omega) (by omega) js3 c3 (by omega)
          have stk : StK L S σ σ3 := ((StK_1 f1).tr b11 (Nat.le_refl _)).tr c5 (by omega)
          have str : StR S τ τ3 := ((StR_P a4).tr b12 (Nat.le_refl _)).tr c6 (by omega)
          rcases this with ⟨σ', τ', k', i', S', d1, d2, d3, d4, d5, d6, d7, d8, d9⟩ | ⟨σ', τ', p, d1, d2, d3, d4, d5, d6, d7, d8⟩
          · refine Or.inl ⟨σ', τ', k', i', S', d1, d2, d3, d4, by omega, by omega, ?_, stk.tr d8 (by omega), str.tr d9 (by omega)⟩
            have e0 : σ' 25 S = op := by rw [d8.2.2.1 S (by omega), c5.2.2.1 S (by omega)]; exact b10
            have e1 : σ' 25 (S + 1) = 2043 := by rw [d8.2.2.1 (S + 1) (by omega)]; exact c4
            rw [sg_app (σ' 25) (show S ≤ S + 1 by omega) (show S + 1 ≤ S' by omega), sg_app (σ' 25) (show S + 1 ≤ S + 1 + 1 by omega) (show S + 1 + 1 ≤ S' by omega), sg_one, sg_one, e0, e1]
            intro F st v hst
            obtain ⟨x, hx⟩ := isS_ex b9 F (st := v :: st) (by rw [List.length_cons]; omega)
            rw [exL_app, exL_1, hx, Option.bind_some, exL_app, exL_1, ex_add, Option.bind_some]
            exact d7 F st _ hst
          · exact Or.inr ⟨σ', τ', p, d1, d2, d3, d4, d5, d6, stk.1.tr d7, str.1.tr d8⟩
        · rw [b1, Option.bind_some, b2, Option.bind_some, if_pos rfl, fail37 b3, b4, bi_some, if_pos rfl]
          exact Or.inr ⟨_, τ2, p, rfl, rfl, b5, pn_up_s _ _ _ _, b6, sane_7 md1, ((StK_1 (L := L) (S := S) f1).1).tr wk_7, (StR_P (S := S) a4).1.tr b7⟩
      · have a1 : fX7_take 2043 σ = some (0, σ) := a1
        have a2 : fX11_sign 43 τ = some (0, τ1) := a2
        rw [a1, bi_some, if_pos rfl, a2, bi_some, if_pos rfl]
        have le := (sk_le (c := c) h.2.1.2.2.2).1
        refine Or.inl ⟨σ, τ1, k, _, S, rfl, rfl, a3, hM.fr Fr1.rf a4, Nat.le_refl _, by omega, ?_, StK.rf, StR_P a4⟩
        rw [sg_self]
        exact fun F st v _ => ⟨v, rfl⟩
theorem j_sum (hb : HB c w n) {σ τ : pn_S} {k i S : Nat} (h : JS c w n T P m σ τ k i) (hM : MD σ τ L S) (hi : S + 2 ≤ i) : JC c w n T P m SmO L σ τ i S (fX3_readSum σ) (fX11_readSum τ) := by
  have hn := hb.1
  unfold fX3_readSum fX11_readSum
  rw [fX3_readSum_4, if_neg (by decide)]
  rcases j_part hb h hM hi with ⟨op, σ2, τ2, i2, b1, b2, b3, b4, b5, b6, b7, b8, b9, b10, b11, b12⟩ | ⟨op, τ2, p, b1, b2, b3, b4, b5, b6, b7⟩
  · rw [b1, Option.bind_some, b2, Option.bind_some, if_neg (by decide), b3, bi_some, if_neg (by decide), b4, Option.bind_some, if_pos rfl, b5, bi_some, if_neg (by decide)]
    have := j_tail hb (n - i2) i2 4999 5000 0 σ2 τ2 (k + 1) (S + 1) rfl (by omega) (by omega) (by omega) b6 b7 (by omega)
    rcases this with ⟨σ', τ', k', i', S', d1, d2, d3, d4, d5, d6, d7, d8, d9⟩ | ⟨σ', τ', p, d1, d2, d3, d4, d5, d6, d7, d8⟩
    · refine Or.inl ⟨σ', τ', k', i', S', d1, d2, d3, d4, by omega, by omega, ?_, b11.tr d8 (by omega), b12.tr d9 (by omega)⟩
      have e0 : σ' 25 S = op := by rw [d8.2.2.1 S (by omega)]; exact b10
      rw [sg_app (σ' 25) (show S ≤ S + 1 by omega) d5, sg_one, e0]
      intro F st hst
      obtain ⟨x, hx⟩ := isS_ex b9 F (st := st) (by omega)
      rw [exL_app, exL_1, hx, Option.bind_some]
      exact d7 F st x hst
    · exact Or.inr ⟨σ', τ', p, d1, d2, d3, d4, d5, d6, b11.1.tr d7, b12.1.tr d8⟩
  · rw [b1, Option.bind_some, b2, Option.bind_some, if_pos rfl, fail37 b3, b4, bi_some, if_pos rfl]
    exact Or.inr ⟨_, τ2, p, rfl, rfl, b5, pn_up_s _ _ _ _, b6, sane_7 hM, wk_7, b7⟩
/-- an atom's code, d deep -/
def AtO (d : Nat) (seg : List Int32) : Prop := ∀ (F : Nat → Int32), FW F → ∀ st : List Int32, st.length + 2 * (6 - d) + 3 ≤ 31 → ∃ b, bo b = true ∧ exL F seg st = some (b :: st)
theorem bo_ite (p : Prop) [Decidable p] : bo (if p then (1 : Int32) else 0) = true := by split <;> decide
/-- behind the sign of a comparison -/
theorem j_cmp2 (hb : HB c w n) {gC gA : pn_S → Option (Int32 × pn_S)} {σ τ : pn_S} {k i S S0 d : Nat} {op y l1 : Int32} (h : JS c w n T P m σ τ k i) (hM : MD σ τ L S) (hi : S + 2 ≤ i) (hop : (op = 2060 ∧ y = 12 ∧ l1 = 1) ∨ (op = 2062 ∧ y = 13 ∧ l1 = 0)) (hS0 : S0 ≤ S) (h0 : SmO (sg (σ 25) S0 S)) :
    (∃ σ' τ' k' i' S', (pn_bi (fX3_readSum σ) fun x8 σ8 => (fX2_addCode 21 op σ8).bind fun σ9 => if pn_b01 x8 then some (x8, σ9) else none) = some (1, σ') ∧ fX11_readAtom_152 gC gA l1 τ = some (1, τ') ∧ JS c w n T P m σ' τ' k' i' ∧ MD σ' τ' L S' ∧ S ≤ S' ∧ S' + i ≤ S + i' + 1 ∧ AtO d (sg (σ' 25) S0 S') ∧ StK L S σ σ' ∧ StR S τ τ') ∨
    (∃ σ' τ' p, (pn_bi (fX3_readSum σ) fun x8 σ8 => (fX2_addCode 21 op σ8).bind fun σ9 => if pn_b01 x8 then some (x8, σ9) else none) = some (0, σ') ∧ fX11_readAtom_152 gC gA l1 τ = some (0, τ') ∧ p ≤ n ∧ σ' 1 7 = nI p ∧ τ' 85 12 = nI p ∧ Sane σ' L ∧ WkK σ σ' ∧ WkR τ τ') := by
  have hn := hb.1
  unfold fX11_readAtom_152 fX11_readAtom_173
  rcases j_sum hb h hM hi with ⟨σ', τ', k', i', S', d1, d2, d3, d4, d5, d6, d7, d8, d9⟩ | ⟨σ', τ', p, d1, d2, d3, d4, d5, d6, d7, d8⟩
  · have hin := d3.2.1.2.2.2
    obtain ⟨σ3, τ3, c1, c2, c3, c4, c5, c6, c7, c8, c9⟩ := j_emi d4 (by omega) (op := op) (x := y) (y := 0) (by rcases hop with ⟨rfl, rfl, _⟩ | ⟨rfl, rfl, _⟩ <;> decide) (fun u => by rcases hop with ⟨rfl, _⟩ | ⟨rfl, _⟩ <;> exact absurd u (by decide))
    refine Or.inl ⟨σ3, τ3, k', i', S' + 1, by rw [d1, bi_some, c1, Option.bind_some, if_pos (by decide)], ?_, js_emi d3 c7 c8 c9, c3, by omega, by omega, ?_, d8.tr c5 d5, d9.tr c6 d5⟩
    · rw [d2, bi_some, if_neg (by decide)]
      rcases hop with ⟨_, rfl, rfl⟩ | ⟨_, rfl, rfl⟩
      · rw [if_neg (by decide), c2, Option.bind_some]
      · rw [if_pos rfl, c2, Option.bind_some]
    · have e1 : σ3 25 S' = op := c4
      have g1 : sg (σ3 25) S0 S = sg (σ 25) S0 S := sg_c fun j q1 q2 => by rw [c5.2.2.1 j (by omega), d8.2.2.1 j q2]
      have g2 : sg (σ3 25) S S' = sg (σ' 25) S S' := sg_c fun j q1 q2 => c5.2.2.1 j q2
      rw [sg_app (σ3 25) hS0 (show S ≤ S' + 1 by omega), sg_app (σ3 25) d5 (show S' ≤ S' + 1 by omega), sg_one, e1, g1, g2]
      intro F hF st hst
      obtain ⟨v, hv⟩ := h0 F st (by omega)
      obtain ⟨v2, hv2⟩ := d7 F (v :: st) (by rw [List.length_cons]; omega)
      rw [exL_app, hv, Option.bind_some, exL_app, hv2, Option.bind_some, exL_1]
      rcases hop with ⟨rfl, _⟩ | ⟨rfl, _⟩
      · exact ⟨_, bo_ite (v < v2), rfl⟩
      · exact ⟨_, bo_ite (v2 < v), rfl⟩
  · obtain ⟨σ9, q1, q2, q3, q4⟩ := sane_adc d6 op
    refine Or.inr ⟨σ9, τ', p, by rw [d1, bi_some, q1, Option.bind_some, if_pos (by decide)], by rw [d2, bi_some, if_pos rfl], d3, by rw [q4]; exact d4, d5, q2, d7.tr q3, d8⟩
theorem j_cmp (hb : HB c w n) {gC gA : pn_S → Option (Int32 × pn_S)} {σ τ : pn_S} {k i S d : Nat} (h : JS c w n T P m σ τ k i) (hM : MD σ τ L S) (hi : S + 2 ≤ i) :
    JC c w n T P m (AtO d) L σ τ i S (fX3_readComparison σ) (pn_bi (fX11_readSum τ) fun x7 σ7 => if x7 = 0 then some ((0 : Int32), σ7) else pn_bi (fX11_sign (60 : Int32) σ7) fun x9 σ9 => if x9 = 0 then pn_bi (fX11_sign (62 : Int32) σ9) fun x11 σ11 => if x11 = 0 then some ((0 : Int32), σ11) else fX11_readAtom_152 gC gA x9 σ11 else fX11_readAtom_152 gC gA x9 σ9) := by
  have hn := hb.1
  unfold fX3_readComparison
  rcases j_sum hb h hM hi with ⟨σ1, τ1, k1, i1, S1, d1, d2, d3, d4, d5, d6, d7, d8, d9⟩ | ⟨σ1, τ1, p, d1, d2, d3, d4, d5, d6, d7, d8⟩
  · obtain ⟨s1, s2⟩ := sk_le (c := c) d3.2.1.2.2.2
    rw [d1, bi_some, if_neg (show ¬ (1 : Int32) = 0 by decide), c_nx d3.2.2.2 d3.1 d3.2.2.1, Option.bind_some, d2, bi_some, if_neg (show ¬ (1 : Int32) = 0 by decide)]
    unfold fX3_readComparison_31 fX3_readComparison_42
    rcases j_sign hb d3 (a := 60) (by omega) (by omega) (by omega) with ⟨i2, τ2, z, a1, a2, a3, a4, a5, _⟩ | ⟨τ2, z, a1, a2, a3, a4, _⟩
    · have z : cod c n (sk c n i1) = 2060 := z
      have a1 : fX7_take 2060 σ1 = some (1, pn_up σ1 1 6 (nI (k1 + 1))) := a1
      have a2 : fX11_sign 60 τ1 = some (1, τ2) := a2
      have f1 : Fr1 σ1 (pn_up σ1 1 6 (nI (k1 + 1))) := Fr1_up (by omega)
      rw [z, if_pos rfl, a1, bi_some, if_neg (by decide), a2, bi_some, if_neg (by decide)]
      have h0 : SmO (sg (pn_up σ1 1 6 (nI (k1 + 1)) 25) S S1) := by rw [pn_up_a _ _ _ _ (by omega)]; exact d7
      rcases j_cmp2 hb (d := d) (gC := gC) (gA := gA) a3 (d4.fr f1 a4) (by omega) (Or.inl ⟨rfl, rfl, rfl⟩) d5 h0 with ⟨σ', τ', k', i', S', e1, e2, e3, e4, e5, e6, e7, e8, e9⟩ | ⟨σ', τ', p, e1, e2, e3, e4, e5, e6, e7, e8⟩
      · exact Or.inl ⟨σ', τ', k', i', S', e1, e2, e3, e4, by omega, by omega, e7, (d8.tr (StK_1 f1) d5).tr e8 d5, (d9.tr (StR_P a4) d5).tr e9 d5⟩
      · exact Or.inr ⟨σ', τ', p, e1, e2, e3, e4, e5, e6, (d8.1.tr (StK_1 (L := L) (S := S) f1).1).tr e7, (d9.1.tr (StR_P (S := S) a4).1).tr e8⟩
    · have z : ¬ cod c n (sk c n i1) = 2060 := z
      have a2 : fX11_sign 60 τ1 = some (0, τ2) := a2
      rw [if_neg z, a2, bi_some, if_pos rfl]
      rcases j_sign hb a3 (a := 62) (by omega) (by omega) (by omega) with ⟨i3, τ3, y, b1, b2, b3, b4, b5, _⟩ | ⟨τ3, y, b1, b2, b3, b4, b5⟩
      · rw [sk_sk] at y
        have y : cod c n (sk c n i1) = 2062 := y
        have b1 : fX7_take 2062 σ1 = some (1, pn_up σ1 1 6 (nI (k1 + 1))) := b1
        have b2 : fX11_sign 62 τ2 = some (1, τ3) := b2
        have f1 : Fr1 σ1 (pn_up σ1 1 6 (nI (k1 + 1))) := Fr1_up (by omega)
        rw [y, if_pos rfl, b1, bi_some, if_neg (by decide), b2, bi_some, if_neg (by decide)]
        have h0 : SmO (sg (pn_up σ1 1 6 (nI (k1 + 1)) 25) S S1) := by rw [pn_up_a _ _ _ _ (by omega)]; exact d7
        rcases j_cmp2 hb (d := d) (gC := gC) (gA := gA) b3 (d4.fr f1 (a4.tr b4)) (by omega) (Or.inr ⟨rfl, rfl, rfl⟩) d5 h0 with ⟨σ', τ', k', i', S', e1, e2, e3, e4, e5, e6, e7, e8, e9⟩ | ⟨σ', τ', p, e1, e2, e3, e4, e5, e6, e7, e8⟩
        · exact Or.inl ⟨σ', τ', k', i', S', e1, e2, e3, e4, by omega, by omega, e7, (d8.tr (StK_1 f1) d5).tr e8 d5, (d9.tr (StR_P (a4.tr b4)) d5).tr e9 d5⟩
        · exact Or.inr ⟨σ', τ', p, e1, e2, e3, e4, e5, e6, (d8.1.tr (StK_1 (L := L) (S := S) f1).1).tr e7, (d9.1.tr (StR_P (S := S) (a4.tr b4)).1).tr e8⟩
      · rw [sk_sk] at y b5
        have y : ¬ cod c n (sk c n i1) = 2062 := y
        have b2 : fX11_sign 62 τ2 = some (0, τ3) := b2
        rw [if_neg y, b2, bi_some, if_pos rfl, c_fl d3.2.2.2 d3.1 d3.2.2.1, bi_some, if_pos (by decide)]
        exact Or.inr ⟨_, τ3, sk c n i1, rfl, rfl, s2, pn_up_s _ _ _ _, b5, sane_7 d4, d8.1.tr wk_7, d9.1.tr (StR_P (S := S) (a4.tr b4)).1⟩
  · rw [d1, bi_some, if_pos rfl, d2, bi_some, if_pos rfl]
    exact Or.inr ⟨σ1, τ1, p, rfl, rfl, d3, d4, d5, d6, d7, d8⟩
end
