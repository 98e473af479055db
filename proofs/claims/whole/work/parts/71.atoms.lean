/-! PURE: atoms and conditions -/
section
variable {c w : Nat → Int32} {n : Nat} {T P : Nat → Int32} {m L : Nat}
theorem ex_tag (F : Nat → Int32) (hF : FW F) {op : Int32} (h : op = 1008 ∨ op = 1005 ∨ op = 1023) {st : List Int32} (hs : st.length < 31) : ∃ b, bo b = true ∧ ex1 F op st = some (b :: st) := by
  unfold ex1
  rcases h with rfl | rfl | rfl
  · rw [if_neg (by decide), if_neg (by decide), if_neg (by decide), if_neg (by decide), if_neg (by decide), if_neg (by decide), if_neg (by decide), if_pos (by decide), if_pos hs]; exact ⟨F 8, hF.2.1, rfl⟩
  · rw [if_neg (by decide), if_neg (by decide), if_neg (by decide), if_neg (by decide), if_neg (by decide), if_neg (by decide), if_neg (by decide), if_pos (by decide), if_pos hs]; exact ⟨F 5, hF.1, rfl⟩
  · rw [if_neg (by decide), if_neg (by decide), if_neg (by decide), if_neg (by decide), if_neg (by decide), if_neg (by decide), if_neg (by decide), if_pos (by decide), if_pos hs]; exact ⟨F 23, hF.2.2, rfl⟩
theorem ex_not (F : Nat → Int32) {a : Int32} (ha : bo a = true) (r : List Int32) : ∃ b, bo b = true ∧ ex1 F 1022 (a :: r) = some (b :: r) := by
  refine ⟨1 - a, by rcases of_decide_eq_true ha with rfl | rfl <;> decide, ?_⟩
  show (if bo a = true then some ((1 - a) :: r) else none) = _
  rw [if_pos ha]
theorem ex_and (F : Nat → Int32) {a b : Int32} (ha : bo a = true) (hb : bo b = true) (r : List Int32) : ∃ d, bo d = true ∧ ex1 F 1021 (b :: a :: r) = some (d :: r) := by
  refine ⟨a &&& b, by rcases of_decide_eq_true ha with rfl | rfl <;> rcases of_decide_eq_true hb with rfl | rfl <;> decide, ?_⟩
  show (if (bo a && bo b) = true then some ((a &&& b) :: r) else none) = _
  rw [ha, hb]; rfl
theorem ex_or (F : Nat → Int32) {a b : Int32} (ha : bo a = true) (hb : bo b = true) (r : List Int32) : ∃ d, bo d = true ∧ ex1 F 1020 (b :: a :: r) = some (d :: r) := by
  refine ⟨a ||| b, by rcases of_decide_eq_true ha with rfl | rfl <;> rcases of_decide_eq_true hb with rfl | rfl <;> decide, ?_⟩
  show (if (bo a && bo b) = true then some ((a ||| b) :: r) else none) = _
  rw [ha, hb]; rfl
theorem JC.pre {Q Q' : List Int32 → Prop} (hQ : ∀ l, Q l → Q' l) {σ τ σ1 τ1 : pn_S} {i i1 S : Nat} {oc or : Option (Int32 × pn_S)} (h : JC c w n T P m Q L σ1 τ1 i1 S oc or) (f : StK L S σ σ1) (g : StR S τ τ1) (hi : i ≤ i1) : JC c w n T P m Q' L σ τ i S oc or := by
  rcases h with ⟨σ', τ', k', i', S', d1, d2, d3, d4, d5, d6, d7, d8, d9⟩ | ⟨σ', τ', p, d1, d2, d3, d4, d5, d6, d7, d8⟩
  · exact Or.inl ⟨σ', τ', k', i', S', d1, d2, d3, d4, d5, by omega, hQ _ d7, f.tr d8 (Nat.le_refl _), g.tr d9 (Nat.le_refl _)⟩
  · exact Or.inr ⟨σ', τ', p, d1, d2, d3, d4, d5, d6, f.1.tr d7, g.1.tr d8⟩
theorem JC.b01 {Q : List Int32 → Prop} {σ τ : pn_S} {i S : Nat} {oc or : Option (Int32 × pn_S)} (h : JC c w n T P m Q L σ τ i S oc or) : JC c w n T P m Q L σ τ i S (pn_bi oc fun x s => if pn_b01 x then some (x, s) else none) or := by
  rcases h with ⟨σ', τ', k', i', S', d1, h⟩ | ⟨σ', τ', p, d1, h⟩
  · exact Or.inl ⟨σ', τ', k', i', S', by rw [d1, bi_some, if_pos (by decide)], h⟩
  · exact Or.inr ⟨σ', τ', p, by rw [d1, bi_some, if_pos (by decide)], h⟩
theorem j_tag (hb : HB c w n) {gC gA : Int32 → pn_S → Option (Int32 × pn_S)} {σ τ : pn_S} {k i S : Nat} (h : JS c w n T P m σ τ k i) (hM : MD σ τ L S) (hi : S + 2 ≤ i) :
    (∃ σ' τ' i', (cod c n (sk c n i) = 1008 ∨ cod c n (sk c n i) = 1005 ∨ cod c n (sk c n i) = 1023) ∧ fX3_readAtom_154 gC gA (cod c n (sk c n i)) σ = some (1, σ') ∧ fX11_readTag τ = some (1, τ') ∧ JS c w n T P m σ' τ' (k + 1) i' ∧ MD σ' τ' L (S + 1) ∧ i < i' ∧ σ' 25 S = cod c n (sk c n i) ∧ StK L S σ σ' ∧ StR S τ τ') ∨
    (∃ τ', ¬ cod c n (sk c n i) = 1008 ∧ ¬ cod c n (sk c n i) = 1005 ∧ ¬ cod c n (sk c n i) = 1023 ∧ fX11_readTag τ = some (0, τ') ∧ JS c w n T P m σ τ' k (sk c n i) ∧ FrP τ τ') := by
  have hn := hb.1
  obtain ⟨h1, h2, h3, h4⟩ := id h
  obtain ⟨s1, s2⟩ := sk_le (c := c) h2.2.2.2
  have hS : S < 400 := by have := h2.2.2.2; omega
  obtain ⟨τ1, g1, g2, g3⟩ := r_let hb h2
  have gt := en_gt c (n := n) (s := sk c n i)
  have md1 : MD σ τ1 L S := hM.fr Fr1.rf g3
  have w8 : fX11_isWord 9 τ1 = some (b01 (decide (cod c n (sk c n i) = 1008))) := r_wd hb g2 (k := 8) (by omega)
  have w5 : fX11_isWord 6 τ1 = some (b01 (decide (cod c n (sk c n i) = 1005))) := r_wd hb g2 (k := 5) (by omega)
  have w23 : fX11_isWord 22 τ1 = some (b01 (decide (cod c n (sk c n i) = 1023))) := r_wd hb g2 (k := 23) (by omega)
  have T1 : ¬ b01 true = 0 := by decide
  have F1 : b01 false = 0 := rfl
  have core : ∀ (q : Nat) (x : Int32), q < 27 → cod c n (sk c n i) = nI (1000 + q) → x = tS (cod c n (sk c n i)) → ¬ x < 0 → ∃ σ' τ' i', fX3_readAtom_154 gC gA (cod c n (sk c n i)) σ = some (1, σ') ∧ fX11_readTag_47 x τ1 = some (1, τ') ∧ JS c w n T P m σ' τ' (k + 1) i' ∧ MD σ' τ' L (S + 1) ∧ i < i' ∧ σ' 25 S = cod c n (sk c n i) ∧ StK L S σ σ' ∧ StR S τ τ' := fun q x hq hc hx hx0 => by
    obtain ⟨e1, e2⟩ := wd_en hb s2 hq hc
    obtain ⟨σ2, τ2, c1, c2, c3, c4, c5, c6, c7, c8, c9⟩ := j_emi md1 hS (op := cod c n (sk c n i)) (x := x) (y := 0) hx (fun u => absurd u (by rw [q_lt, hc, nI_toInt (by omega)]; show ¬ _ < (1000 : Int); omega))
    have cj2 : CJ n T P m k σ2 := h1.fr (c7 1 (by omega) (by omega) (by omega)) (c7 3 (by omega) (by omega) (by omega)) (c7 4 (by omega) (by omega) (by omega))
    have f1 : Fr1 σ2 (pn_up σ2 1 6 (nI (k + 1))) := Fr1_up (by omega)
    refine ⟨pn_up σ2 1 6 (nI (k + 1)), τ2, en c n (sk c n i), ?_, ?_, ⟨cj2.nx, ⟨?_, (c9 11 (by omega)).trans g2.1.2.1, (c8 91 (by omega) (by omega)).trans g2.1.2.2.1, by rw [e1]; exact g2.1.2.2.2⟩, h3.to.2.2.2 e2, h4⟩, c3.fr f1 FrP.rf, by omega, ?_, c5.tr (StK_1 f1) (Nat.le_refl _), (StR_P g3).tr c6 (Nat.le_refl _)⟩
    · unfold fX3_readAtom_154
      rw [c1, Option.bind_some, (c_tk h4 cj2 h3 _).1 rfl, bi_some, if_pos (by decide)]
    · unfold fX11_readTag_47 fX11_readTag_69
      rw [if_neg hx0, c2, Option.bind_some, if_neg hx0]
    · rw [c9 10 (by omega), e1]; exact g2.1.1
    · rw [pn_up_a _ _ _ _ (by omega)]; exact c4
  unfold fX11_readTag
  rw [g1, Option.bind_some, w8, Option.bind_some]
  by_cases h8 : cod c n (sk c n i) = 1008
  · obtain ⟨σ', τ', i', e1, e2, e3⟩ := core 8 7 (by omega) h8 (by rw [h8]; decide) (by decide)
    exact Or.inl ⟨σ', τ', i', Or.inl h8, e1, by rw [decide_eq_true h8, if_neg T1, e2], e3⟩
  rw [decide_eq_false h8, if_pos F1, w5, Option.bind_some]
  by_cases h5 : cod c n (sk c n i) = 1005
  · obtain ⟨σ', τ', i', e1, e2, e3⟩ := core 5 8 (by omega) h5 (by rw [h5]; decide) (by decide)
    exact Or.inl ⟨σ', τ', i', Or.inr (Or.inl h5), e1, by rw [decide_eq_true h5, if_neg T1, e2], e3⟩
  rw [decide_eq_false h5, if_pos F1, w23, Option.bind_some]
  by_cases h23 : cod c n (sk c n i) = 1023
  · obtain ⟨σ', τ', i', e1, e2, e3⟩ := core 23 9 (by omega) h23 (by rw [h23]; decide) (by decide)
    exact Or.inl ⟨σ', τ', i', Or.inr (Or.inr h23), e1, by rw [decide_eq_true h23, if_neg T1, e2], e3⟩
  rw [decide_eq_false h23, if_pos F1]
  unfold fX11_readTag_47 fX11_readTag_69
  rw [if_pos (by decide), if_pos (by decide)]
  refine Or.inr ⟨_, h8, h5, h23, rfl, ⟨h1, ?_, h3.sk (sk_sk i), h4⟩, g3.tr (FrP_up (by omega))⟩
  exact g2.1.up (FrP_up (by omega)) (by rw [pn_up_s]; exact g2.2.1) s2
def CoO (d : Nat) (seg : List Int32) : Prop := ∀ (F : Nat → Int32), FW F → ∀ st : List Int32, st.length + 2 * (6 - d) + 5 ≤ 31 → ∃ b, bo b = true ∧ exL F seg st = some (b :: st)
def TaO (d e : Nat) (seg : List Int32) : Prop := ∀ (F : Nat → Int32), FW F → ∀ (st : List Int32) (a : Int32), bo a = true → st.length + 2 * (6 - d) + e ≤ 31 → ∃ b, bo b = true ∧ exL F seg (a :: st) = some (b :: st)
theorem MD_13 {σ τ : pn_S} {S : Nat} {x : Int32} (h : MD σ τ L S) : MD σ (pn_up τ 85 13 x) L S := by
  unfold MD
  rw [pn_up_k _ _ _ _ (show (16 : Nat) ≠ 13 by omega), pn_up_a _ _ _ _ (show (86 : Nat) ≠ 85 by omega)]
  exact h
theorem JS_13 {σ τ : pn_S} {k i : Nat} {x : Int32} (h : JS c w n T P m σ τ k i) : JS c w n T P m σ (pn_up τ 85 13 x) k i := h.v rfl rfl rfl (pn_up_k _ _ _ _ (by omega)) (pn_up_k _ _ _ _ (by omega)) (pn_up_a _ _ _ _ (by omega))
theorem WkR_13 {τ : pn_S} {x : Int32} : WkR τ (pn_up τ 85 13 x) := ⟨fun i q _ => pn_up_a _ _ _ _ q, fun k _ _ q _ => pn_up_k _ _ _ _ q, fun k _ => by rw [pn_up_a _ _ _ _ (by omega)]⟩
/-- down and up again -/
theorem StR_13 {S S' : Nat} {a b e f : pn_S} {x y : Int32} (h1 : StR S a b) (h2 : StR S (pn_up b 85 13 x) e) (h3 : StR S' (pn_up e 85 13 y) f) (hs : S ≤ S') (hy : y = a 85 13) : StR S a f := by
  refine ⟨((h1.1.tr WkR_13).tr h2.1).tr (WkR_13.tr h3.1), fun k q => ?_, ?_⟩
  · rw [h3.2.1 k (by omega), pn_up_a _ _ _ _ (by omega), h2.2.1 k q, pn_up_a _ _ _ _ (by omega), h1.2.1 k q]
  · rw [h3.2.2, pn_up_s, hy]
theorem j_atom (hb : HB c w n) {gC gA : Int32 → pn_S → Option (Int32 × pn_S)} {gC' gA' : pn_S → Option (Int32 × pn_S)} {d : Nat} (hd : d ≤ 6)
    (hC : d < 6 → ∀ (σ τ : pn_S) (k i S : Nat), JS c w n T P m σ τ k i → MD σ τ L S → S + 2 ≤ i → τ 85 13 = nI (d + 1) → JC c w n T P m (CoO (d + 1)) L σ τ i S (gC (nI (d + 1)) σ) (gC' τ))
    (hA : d < 6 → ∀ (σ τ : pn_S) (k i S : Nat), JS c w n T P m σ τ k i → MD σ τ L S → S + 2 ≤ i → τ 85 13 = nI (d + 1) → JC c w n T P m (AtO (d + 1)) L σ τ i S (gA (nI (d + 1)) σ) (gA' τ))
    {σ τ : pn_S} {k i S : Nat} (h : JS c w n T P m σ τ k i) (hM : MD σ τ L S) (hi : S + 2 ≤ i) (h13 : τ 85 13 = nI d) : JC c w n T P m (AtO d) L σ τ i S (fX3_readAtom gC gA (nI d) σ) (fX11_readAtom gC' gA' τ) := by
  have hn := hb.1
  have hin := h.2.1.2.2.2
  obtain ⟨s1, s2⟩ := sk_le (c := c) hin
  have d6 : ∀ {x : Int32}, x = nI d → (d = 6 → x = 6) ∧ (¬ d = 6 → ¬ x = 6) := fun hx => ⟨fun q => by rw [hx, q]; rfl, fun q u => q ((nI_eq (b := 6) (by omega) (by omega)).mp (hx.symm.trans u))⟩
  have l6 : d = 6 → ¬ nI d < (6 : Int32) := fun q => by rw [q]; decide
  have l6' : ¬ d = 6 → nI d < (6 : Int32) := fun q => nI_lt (b := 6) (by omega) (by omega)
  have I10 : ¬ (1 : Int32) = 0 := by decide
  unfold fX3_readAtom fX11_readAtom fX3_readAtom_22 fX3_readAtom_27
  rw [c_nx h.2.2.2 h.1 h.2.2.1, Option.bind_some]
  rcases j_sign hb h (a := 40) (by omega) (by omega) (by omega) with ⟨i1, τ1, z, a1, a2, a3, a4, a5, a6⟩ | ⟨τ1, z, a1, a2, a3, a4, a5⟩
  · have z : cod c n (sk c n i) = 2040 := z
    have a1 : fX7_take 2040 σ = some (1, pn_up σ 1 6 (nI (k + 1))) := a1
    have a2 : fX11_sign 40 τ = some (1, τ1) := a2
    have f1 : Fr1 σ (pn_up σ 1 6 (nI (k + 1))) := Fr1_up (by omega)
    have e13 : τ1 85 13 = nI d := (a4.2 13 (by omega) (by omega)).trans h13
    rw [z, if_neg (show ¬ (2040 : Int32) = 1022 by decide), if_pos (show (2040 : Int32) = 2040 from rfl), if_neg I10, a2, bi_some, if_neg I10]
    by_cases q : d = 6
    · rw [if_neg (l6 q), if_pos ((d6 e13).1 q), c_fl h.2.2.2 h.1 h.2.2.1, bi_some, if_pos (by decide)]
      exact Or.inr ⟨_, τ1, sk c n i, rfl, rfl, s2, pn_up_s _ _ _ _, a6, sane_7 hM, wk_7, (StR_P (S := S) a4).1⟩
    · unfold fX3_readAtom_46
      rw [if_pos (l6' q), if_neg ((d6 e13).2 q), a1, bi_some, if_neg I10, e13, nI_1]
      rcases hC (by omega) _ _ _ _ _ (JS_13 a3) (MD_13 (hM.fr f1 a4)) (by omega) (pn_up_s _ _ _ _) with ⟨σ2, τ2, k2, i2, S2, d1, d2, d3, d4, d5, d6', d7, d8, d9⟩ | ⟨σ2, τ2, p, d1, d2, d3, d4, d5, d6', d7, d8⟩
      · have e2 : τ2 85 13 - 1 = nI d := by rw [d9.2.2, pn_up_s, ← nI_1]; exact Int32.add_sub_cancel _ _
        rw [d1, bi_some, if_neg I10, d2, bi_some, if_neg I10, e2]
        rcases j_sign hb (JS_13 (x := nI d) d3) (a := 41) (by omega) (by omega) (by omega) with ⟨i3, τ3, y, b1, b2, b3, b4, b5, b6⟩ | ⟨τ3, y, b1, b2, b3, b4, b5⟩
        · have b1 : fX7_take 2041 σ2 = some (1, pn_up σ2 1 6 (nI (k2 + 1))) := b1
          have b2 : fX11_sign 41 (pn_up τ2 85 13 (nI d)) = some (1, τ3) := b2
          have f2 : Fr1 σ2 (pn_up σ2 1 6 (nI (k2 + 1))) := Fr1_up (by omega)
          rw [b1, bi_some, if_neg I10, b2, bi_some, if_pos (by decide)]
          refine Or.inl ⟨_, τ3, k2 + 1, i3, S2, rfl, rfl, b3, (MD_13 d4).fr f2 b4, d5, by omega, ?_, ((StK_1 f1).tr d8 (Nat.le_refl _)).tr (StK_1 f2) (Nat.le_refl _), StR_13 (StR_P a4) d9 (StR_P b4) (Nat.le_refl _) h13.symm⟩
          rw [pn_up_a _ _ _ _ (by omega)]
          intro F hF st hst
          exact d7 F hF st (by omega)
        · have b1 : fX7_take 2041 σ2 = some (0, σ2) := b1
          have b2 : fX11_sign 41 (pn_up τ2 85 13 (nI d)) = some (0, τ3) := b2
          obtain ⟨t1, t2⟩ := sk_le (c := c) d3.2.1.2.2.2
          rw [b1, bi_some, if_pos rfl, c_fl d3.2.2.2 d3.1 d3.2.2.1, bi_some, if_pos rfl, b2, bi_some, if_pos (by decide)]
          exact Or.inr ⟨_, τ3, sk c n i2, rfl, rfl, t2, pn_up_s _ _ _ _, b5, sane_7 d4, ((StK_1 (L := L) (S := S) f1).1.tr d8.1).tr wk_7, (StR_13 (StR_P (S := S) a4) d9 (StR_P b4) (Nat.le_refl _) h13.symm).1⟩
      · rw [d1, bi_some, if_pos rfl, d2, bi_some, if_pos rfl]
        exact Or.inr ⟨σ2, τ2, p, rfl, rfl, d3, d4, d5, d6', (StK_1 (L := L) (S := S) f1).1.tr d7, (StR_P (S := S) a4).1.tr (WkR_13.tr d8)⟩
  · have z : ¬ cod c n (sk c n i) = 2040 := z
    have a1 : fX7_take 2040 σ = some (0, σ) := a1
    have a2 : fX11_sign 40 τ = some (0, τ1) := a2
    rw [a2, bi_some, if_pos rfl]
    rcases j_pass hb a3 (q := 22) (by omega) with ⟨i3, τ3, y, b1, b2, b3, b4, b5, b6⟩ | ⟨τ3, y, b1, b2, b3, b4, b5⟩
    · rw [sk_sk] at y b6
      have y : cod c n (sk c n i) = 1022 := y
      have b1 : fX7_take 1022 σ = some (1, pn_up σ 1 6 (nI (k + 1))) := b1
      have b2 : fX11_passes 21 τ1 = some (1, τ3) := b2
      have f1 : Fr1 σ (pn_up σ 1 6 (nI (k + 1))) := Fr1_up (by omega)
      have fr := a4.tr b4
      have e13 : τ3 85 13 = nI d := (fr.2 13 (by omega) (by omega)).trans h13
      rw [y, if_pos (show (1022 : Int32) = 1022 from rfl), if_neg I10, b2, bi_some, if_neg I10]
      by_cases q : d = 6
      · rw [if_neg (l6 q), if_pos ((d6 e13).1 q), c_fl h.2.2.2 h.1 h.2.2.1, bi_some, if_pos (by decide)]
        exact Or.inr ⟨_, τ3, sk c n i, rfl, rfl, s2, pn_up_s _ _ _ _, b6, sane_7 hM, wk_7, (StR_P (S := S) fr).1⟩
      · unfold fX3_readAtom_46
        rw [if_pos (l6' q), if_neg ((d6 e13).2 q), a1, bi_some, if_pos rfl, b1, bi_some, if_neg I10, e13, nI_1]
        rcases hA (by omega) _ _ _ _ _ (JS_13 b3) (MD_13 (hM.fr f1 fr)) (by omega) (pn_up_s _ _ _ _) with ⟨σ2, τ2, k2, i2, S2, d1, d2, d3, d4, d5, d6', d7, d8, d9⟩ | ⟨σ2, τ2, p, d1, d2, d3, d4, d5, d6', d7, d8⟩
        · have e2 : τ2 85 13 - 1 = nI d := by rw [d9.2.2, pn_up_s, ← nI_1]; exact Int32.add_sub_cancel _ _
          have hin2 := d3.2.1.2.2.2
          obtain ⟨σ4, τ4, c1, c2, c3, c4, c5, c6, c7, c8, c9⟩ := j_emi (MD_13 (x := nI d) d4) (by omega) (op := 1022) (x := 14) (y := 0) (by decide) (fun u => absurd u (by decide))
          rw [d1, bi_some, c1, Option.bind_some, if_pos (by decide), d2, bi_some, if_neg I10, e2, c2, Option.bind_some]
          refine Or.inl ⟨σ4, τ4, k2, i2, S2 + 1, rfl, rfl, js_emi (JS_13 d3) c7 c8 c9, c3, by omega, by omega, ?_, ((StK_1 f1).tr d8 (Nat.le_refl _)).tr c5 d5, StR_13 (StR_P fr) d9 c6 d5 h13.symm⟩
          rw [sg_app (σ4 25) d5 (show S2 ≤ S2 + 1 by omega), sg_one, c4, sg_c (cd' := σ2 25) fun j q1 q2 => c5.2.2.1 j q2]
          intro F hF st hst
          obtain ⟨v, hv, hv2⟩ := d7 F hF st (by omega)
          rw [exL_app, hv2, Option.bind_some, exL_1]
          exact ex_not F hv st
        · obtain ⟨σ9, q1, q2, q3, q4⟩ := sane_adc d6' 1022
          rw [d1, bi_some, q1, Option.bind_some, if_pos (by decide), d2, bi_some, if_pos rfl]
          exact Or.inr ⟨σ9, τ2, p, rfl, rfl, d3, by rw [q4]; exact d4, d5, q2, ((StK_1 (L := L) (S := S) f1).1.tr d7).tr q3, (StR_P (S := S) fr).1.tr (WkR_13.tr d8)⟩
    · rw [sk_sk] at y b3 b5
      have y : ¬ cod c n (sk c n i) = 1022 := y
      have b1 : fX7_take 1022 σ = some (0, σ) := b1
      have b2 : fX11_passes 21 τ1 = some (0, τ3) := b2
      have fr := a4.tr b4
      rw [if_neg y, if_neg z, if_pos rfl, b2, bi_some, if_pos rfl]
      unfold fX3_readAtom_46
      rw [a1, bi_some, if_pos rfl, b1, bi_some, if_pos rfl]
      rcases j_tag hb (gC := gC) (gA := gA) b3 (hM.fr Fr1.rf fr) (by omega) with ⟨σ4, τ4, i4, t1, t2, t3, t4, t5, t6, t7, t8, t9⟩ | ⟨τ4, t1, t2, t3, t4, t5, t6⟩
      · rw [sk_sk] at t1 t2 t7
        rw [t3, bi_some, if_neg I10]
        refine Or.inl ⟨σ4, τ4, k + 1, i4, S + 1, ?_, rfl, t4, t5, by omega, by omega, ?_, t8, (StR_P fr).tr t9 (Nat.le_refl _)⟩
        · rcases t1 with e | e | e
          · rw [if_pos e, t2]
          · rw [if_neg (by rw [e]; decide), if_pos e, t2]
          · rw [if_neg (by rw [e]; decide), if_neg (by rw [e]; decide), if_pos e, t2]
        · rw [sg_one, t7]
          intro F hF st hst
          rw [exL_1]
          exact ex_tag F hF t1 (by omega)
      · rw [sk_sk] at t1 t2 t3 t5
        rw [if_neg t1, if_neg t2, if_neg t3, t4, bi_some, if_pos rfl]
        have fr2 := fr.tr t6
        exact (JC.pre (fun _ u => u) (j_cmp hb (d := d) (gC := gC') (gA := gA') t5 (hM.fr Fr1.rf fr2) (by omega)) StK.rf (StR_P fr2) (by omega)).b01
end
