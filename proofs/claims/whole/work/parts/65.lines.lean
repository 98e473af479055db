/-! PURE: a line of a village -/
section
variable {c w : Nat → Int32} {n : Nat} {T P : Nat → Int32} {m : Nat}
theorem c_tell0 {σ : pn_S} {v N p t : Nat} (hN : σ v 2 = nI N) (hN8 : N ≤ 8) (hp : p < N) (ht : t < 8) (x : Int32) : fX8_tell v (nI p) (nI t) x σ = some (σ (v + 1) (8 * p + t), pn_up σ (v + 1) (8 * p + t) x) := by
  unfold fX8_tell
  rw [hN, if_neg (nI_pos (by omega)), if_neg (nI_ge hp (by omega)), if_neg (nI_pos (by omega)), if_pos (show nI t < 8 from nI_lt (b := 8) ht (by omega)), cv_idx (by omega) ht, q_ib (by omega) (by omega), if_pos rfl, if_pos rfl, nI_clamp (by omega)]
def nsr (t : Nat) : Int32 := if t = 5 then -1 else 0
theorem c_addP {σ : pn_S} {p : Nat} (hN : σ 8 2 = nI p) (hp : p < 8) : fX8_addPerson 8 σ = some (nI p, pn_ua (pn_up σ 8 2 (nI (p + 1))) 9 (cpy (σ 9) nsr (8 * p) 8)) := by
  unfold fX8_addPerson
  rw [hN, if_pos (show nI p < 8 from nI_lt (b := 8) hp (by omega)), nI_1]
  have e9 : pn_up σ 8 2 (nI (p + 1)) 9 = σ 9 := pn_up_a _ _ _ _ (by omega)
  obtain ⟨s, g1, g2⟩ := lpE (n := 8) (F := fun f t s => fX8_addPerson_28 8 f (nI p) (nI t) s) (out := fun s => some (nI p, s)) (fun t s => s = pn_ua (pn_up σ 8 2 (nI (p + 1))) 9 (cpy (pn_up σ 8 2 (nI (p + 1)) 9) nsr (8 * p) t))
    (fun f s _ => by rw [fX8_addPerson_28, if_pos (show (8 : Int32) ≤ nI 8 by decide)])
    (fun f t s ht hs => by
      refine ⟨_, ?_, cpy_s (pn_up σ 8 2 (nI (p + 1))) 9 (8 * p) t nsr⟩
      have h2 : s 8 2 = nI (p + 1) := by rw [hs, pn_ua_a _ _ _ (by omega), pn_up_s]
      rw [fX8_addPerson_28, if_neg (show ¬ (8 : Int32) ≤ nI t from nI_ge (b := 8) ht (by omega))]
      unfold fX8_addPerson_47
      rw [c_tell0 h2 (by omega) (by omega) ht, bi_some, c_tell0 h2 (by omega) (by omega) ht, bi_some, nI_1, ← hs]
      unfold nsr
      by_cases z : t = 5
      · rw [if_pos (show nI t = 5 by rw [z]; rfl), if_pos z]
      · rw [if_neg (show ¬ nI t = 5 from fun u => z ((nI_eq (b := 5) (by omega) (by omega)).mp u)), if_neg z]) 8 0 5000 (pn_up σ 8 2 (nI (p + 1))) (by omega) (by omega) (cpy_0 _ _ _ _).symm
  refine g1.trans ?_
  rw [g2, e9]
theorem cv_add {σ σ' : pn_S} {V V' : pn_V} {p : Nat} (h : CV σ 8 V) (hp : vn V = p) (hp8 : p < 8) (h0 : V' 0 = nI (p + 1)) (hf : ∀ k, k ≠ 2 → σ' 8 k = σ 8 k) (h2 : σ' 8 2 = nI (p + 1)) (h9 : ∀ j, j < 8 * p → σ' 9 j = σ 9 j) (h10 : σ' 10 = σ 10) (hnew : ∀ t, t < 8 → σ' 9 (8 * p + t) = V' (13 + 8 * p + t)) (hV : ∀ k, k ≠ 0 → (k < 13 + 8 * p ∨ 13 + 8 * p + 8 ≤ k) → V' k = V k) : CV σ' 8 V' ∧ vn V' = p + 1 := by
  have evn : vn V' = p + 1 := by unfold vn; rw [h0, nI_clamp (by omega)]
  have evl : vl V' = vl V := by unfold vl; rw [hV 11 (by omega) (by omega)]
  obtain ⟨⟨g2, g3, g4, g5, g6, g7, g8, g9, g10, g11, g12, g13⟩, t2, x0, hx0, t3, t4⟩ := h
  refine ⟨⟨?_, fun j hj => ?_, x0, hx0, by rw [hf 14 (by omega)]; exact t3, fun a ha k hk => ?_⟩, evn⟩
  · rw [h2, h0, hf 3 (by omega), hf 4 (by omega), hf 5 (by omega), hf 6 (by omega), hf 7 (by omega), hf 8 (by omega), hf 9 (by omega), hf 10 (by omega), hf 11 (by omega), hf 12 (by omega), hf 13 (by omega), hV 1 (by omega) (by omega), hV 5 (by omega) (by omega), hV 6 (by omega) (by omega), hV 3 (by omega) (by omega), hV 4 (by omega) (by omega), hV 7 (by omega) (by omega), hV 8 (by omega) (by omega), hV 9 (by omega) (by omega), hV 10 (by omega) (by omega), hV 12 (by omega) (by omega), hV 11 (by omega) (by omega)]
    exact ⟨rfl, g3, g4, g5, g6, g7, g8, g9, g10, g11, g12, g13⟩
  · rw [evn] at hj
    rcases Nat.lt_or_ge j (8 * p) with q | q
    · rw [h9 j q, hV _ (by omega) (by omega)]
      exact t2 j (by omega)
    · have := hnew (j - 8 * p) (by omega)
      rw [show 8 * p + (j - 8 * p) = j by omega, show 13 + 8 * p + (j - 8 * p) = 13 + j by omega] at this
      exact this
  · rw [evl] at ha
    rw [h10, hV _ (by omega) (by omega)]
    exact t4 a ha k hk
theorem vw_add {V V' : pn_V} {p : Nat} (hw : VW V) (hp : vn V = p) (hp8 : p < 8) (h0 : V' 0 = nI (p + 1)) (hV : ∀ k, k ≠ 0 → (k < 13 + 8 * p ∨ 13 + 8 * p + 8 ≤ k) → V' k = V k) (hn : rg (tr V' p 0) 0 8 ∧ rg (tr V' p 1) 0 9 ∧ rg (tr V' p 2) 0 99 ∧ rg (tr V' p 3) 0 9999 ∧ rg (tr V' p 4) 0 9 ∧ rg (tr V' p 5) (-1) p ∧ rg (tr V' p 6) 0 1 ∧ rg (tr V' p 7) 0 1) : VW V' := by
  have evn : vn V' = p + 1 := by unfold vn; rw [h0, nI_clamp (by omega)]
  obtain ⟨a0, a1, a3, a4, a5, a6, a7, a8, a9, a10, a11, hq⟩ := hw
  unfold VW
  rw [evn, h0, hV 1 (by omega) (by omega), hV 3 (by omega) (by omega), hV 4 (by omega) (by omega), hV 5 (by omega) (by omega), hV 6 (by omega) (by omega), hV 7 (by omega) (by omega), hV 8 (by omega) (by omega), hV 9 (by omega) (by omega), hV 10 (by omega) (by omega), hV 11 (by omega) (by omega)]
  have wk : ∀ {x : Int32}, rg x (-1) ((vn V : Int) - 1) → rg x (-1) (((p + 1 : Nat) : Int) - 1) := fun {x} r => ⟨r.1, by have := r.2; rw [hp] at this; omega⟩
  refine ⟨⟨by rw [nI_toInt (by omega)]; omega, by rw [nI_toInt (by omega)]; omega⟩, a1, a3, a4, wk a5, a6, a7, a8, a9, a10, a11, fun q hq' => ?_⟩
  rcases Nat.lt_or_ge q p with z | z
  · have e : ∀ k, k < 8 → tr V' q k = tr V q k := fun k hk => hV _ (by omega) (by omega)
    rw [e 0 (by omega), e 1 (by omega), e 2 (by omega), e 3 (by omega), e 4 (by omega), e 5 (by omega), e 6 (by omega), e 7 (by omega)]
    obtain ⟨b0, b1, b2, b3, b4, b5, b6, b7⟩ := hq q (by rw [hp]; exact z)
    exact ⟨b0, b1, b2, b3, b4, wk b5, b6, b7⟩
  · have e : q = p := by omega
    subst e
    obtain ⟨b0, b1, b2, b3, b4, b5, b6, b7⟩ := hn
    exact ⟨b0, b1, b2, b3, b4, ⟨b5.1, by have := b5.2; omega⟩, b6, b7⟩
/-- the class's frame here, and the reference's -/
def FrK (σ σ' : pn_S) : Prop := (∀ i, i ≠ 1 → i ≠ 8 → i ≠ 9 → i ≠ 10 → σ' i = σ i) ∧ ∀ k, k ≠ 6 → k ≠ 7 → σ' 1 k = σ 1 k
def FrV (τ τ' : pn_S) : Prop := (∀ i, i ≠ 85 → i ≠ 86 → τ' i = τ i) ∧ (∀ k, k ≠ 10 → k ≠ 12 → τ' 85 k = τ 85 k) ∧ Kp (τ' 86) (τ 86) ∧ τ' 86 1 = τ 86 1
theorem FrK.rf {σ : pn_S} : FrK σ σ := ⟨fun _ _ _ _ _ => rfl, fun _ _ _ => rfl⟩
theorem FrK.tr {a b d : pn_S} (h : FrK a b) (h2 : FrK b d) : FrK a d := ⟨fun i q1 q2 q3 q4 => (h2.1 i q1 q2 q3 q4).trans (h.1 i q1 q2 q3 q4), fun k q1 q2 => (h2.2 k q1 q2).trans (h.2 k q1 q2)⟩
theorem FrK_up {σ : pn_S} {a k : Nat} {x : Int32} (h : (a = 1 ∧ (k = 6 ∨ k = 7)) ∨ a = 8 ∨ a = 9) : FrK σ (pn_up σ a k x) := ⟨fun i q1 q2 q3 q4 => pn_up_a _ _ _ _ (by omega), fun j q1 q2 => by
  by_cases e : a = 1
  · subst e; exact pn_up_k _ _ _ _ (by omega)
  · rw [pn_up_a _ _ _ _ (fun z => e z.symm)]⟩
theorem FrV.rf {σ : pn_S} : FrV σ σ := ⟨fun _ _ _ => rfl, fun _ _ _ => rfl, Kp.rf, rfl⟩
theorem FrV.tr {a b d : pn_S} (h : FrV a b) (h2 : FrV b d) : FrV a d := ⟨fun i q1 q2 => (h2.1 i q1 q2).trans (h.1 i q1 q2), fun k q1 q2 => (h2.2.1 k q1 q2).trans (h.2.1 k q1 q2), h2.2.2.1.tr h.2.2.1, h2.2.2.2.trans h.2.2.2⟩
theorem FrV_P {a b : pn_S} (h : FrP a b) : FrV a b := ⟨fun i q _ => h.1 i q, h.2, by rw [h.1 86 (by omega)]; exact Kp.rf, by rw [h.1 86 (by omega)]⟩
theorem FrV_86 {a : pn_S} {k : Nat} {x : Int32} (h : k ≠ 2 ∧ k < 317 ∧ k ≠ 1) : FrV a (pn_up a 86 k x) := ⟨fun i _ q => pn_up_a _ _ _ _ q, fun j _ _ => by rw [pn_up_a _ _ _ _ (by omega)], by rw [pn_up_row]; exact Kp_up ⟨h.1, h.2.1⟩, pn_up_k _ _ _ _ (fun e => h.2.2 e.symm)⟩
/-- both read, as it should be or not -/
def JL (c w : Nat → Int32) (n : Nat) (T P : Nat → Int32) (m : Nat) (σ τ : pn_S) (i : Nat) (oc or : Option (Int32 × pn_S)) : Prop :=
  (∃ σ' τ' k' i', oc = some (1, σ') ∧ or = some (1, τ') ∧ JS c w n T P m σ' τ' k' i' ∧ i < i' ∧ CV σ' 8 (τ' 86) ∧ VW (τ' 86) ∧ FrK σ σ' ∧ FrV τ τ') ∨
  (∃ σ' τ' p, oc = some (0, σ') ∧ or = some (0, τ') ∧ p ≤ n ∧ σ' 1 7 = nI p ∧ τ' 85 12 = nI p ∧ FrK σ σ' ∧ FrV τ τ')
theorem JS.v {σ σ' τ τ' : pn_S} {k i : Nat} (h : JS c w n T P m σ τ k i) (h1 : σ' 1 = σ 1) (h3 : σ' 3 = σ 3) (h4 : σ' 4 = σ 4) (r1 : τ' 85 10 = τ 85 10) (r2 : τ' 85 11 = τ 85 11) (r3 : τ' 91 = τ 91) : JS c w n T P m σ' τ' k i := ⟨h.1.fr h1 h3 h4, ⟨r1.trans h.2.1.1, r2.trans h.2.1.2.1, r3.trans h.2.1.2.2.1, h.2.1.2.2.2⟩, h.2.2.1, h.2.2.2⟩
theorem c_ta {σ : pn_S} {k i : Nat} (hm : m ≤ 401) (h : CJ n T P m k σ) (ht : TK c n T P m k i) {x : Int32} (hx : cod c n (sk c n i) = x) (hi : Int32) : fX7_takeNumberAfter x hi σ = fX7_takeNumber hi (pn_up σ 1 6 (nI (k + 1))) := by
  unfold fX7_takeNumberAfter
  rw [(c_tk hm h ht x).1 hx, bi_some, if_neg (by decide)]
  exact bi_id _
theorem b01_ok {x : Int32} (h : x = 0 ∨ x = 1) : pn_b01 x = true := by rcases h with rfl | rfl <;> decide
/-- at the line's first word -/
def LSt (c w : Nat → Int32) (n : Nat) (T P : Nat → Int32) (m : Nat) (σ τ : pn_S) (k s : Nat) : Prop := CJ n T P m k σ ∧ LJ c w n s τ ∧ TK c n T P m k s ∧ m ≤ 401 ∧ sk c n s = s
theorem LSt.go (hb : HB c w n) {σ τ : pn_S} {k s q : Nat} (h : LSt c w n T P m σ τ k s) (hq : q < 27) (hc : cod c n s = nI (1000 + q)) : JS c w n T P m (pn_up σ 1 6 (nI (k + 1))) τ (k + 1) (en c n s) ∧ s < n := by
  obtain ⟨h1, h2, h3, h4, h5⟩ := h
  obtain ⟨e1, e2⟩ := wd_en hb h2.2.2 hq hc
  have := h3.to.2.2.2 (by rw [h5]; exact e2)
  rw [h5] at this
  exact ⟨⟨h1.nx, by rw [e1]; exact h2.1, this, h4⟩, e2⟩
theorem LSt.js {σ τ : pn_S} {k s : Nat} (h : LSt c w n T P m σ τ k s) : fX7_nextThing σ = some (cod c n s) ∧ fX7_fail σ = some (0, pn_up σ 1 7 (nI s)) := by
  obtain ⟨h1, h2, h3, h4, h5⟩ := h
  have a := c_nx h4 h1 h3
  have b := c_fl h4 h1 h3
  rw [h5] at a b
  exact ⟨a, b⟩
theorem LSt.fail {σ τ : pn_S} {k s : Nat} (h : LSt c w n T P m σ τ k s) {oc or : Option (Int32 × pn_S)} {i : Nat} (h1 : oc = some (0, pn_up σ 1 7 (nI s))) (h2 : or = some (0, τ)) : JL c w n T P m σ τ i oc or :=
  Or.inr ⟨_, τ, s, h1, h2, h.2.1.2.2, pn_up_s _ _ _ _, h.2.1.2.1, FrK_up (by omega), FrV.rf⟩
/-- a setting -/
theorem j_set (hb : HB c w n) {σ τ : pn_S} {k s q f a : Nat} {hi : Int32} (h : LSt c w n T P m σ τ k s) (hC : CV σ 8 (τ 86)) (hw : VW (τ 86)) (hq : q < 27) (hc : cod c n s = nI (1000 + q)) (hfa : (f = 3 ∧ a = 1) ∨ (f = 4 ∧ a = 5) ∨ (f = 5 ∧ a = 6) ∨ (f = 6 ∧ a = 3) ∨ (f = 7 ∧ a = 4) ∨ (f = 8 ∧ a = 7) ∨ (f = 9 ∧ a = 8) ∨ (f = 10 ∧ a = 9) ∨ (f = 11 ∧ a = 10) ∨ (f = 12 ∧ a = 12)) (ha1 : a ≠ 1) (hx : ∀ x : Int32, 0 ≤ x.toInt → x.toInt ≤ hi.toInt → x.toInt ≤ 999 → rg x (flo a) (fhi (vn (τ 86)) a)) :
    JL c w n T P m σ τ s (pn_bi (fX7_takeNumberAfter (nI (1000 + q)) hi σ) fun x3 σ3 => fX9_readSetting_159 (pn_up σ3 8 f x3)) (fX11_readNumber (nI a) 0 hi τ) := by
  have gt := en_gt c (n := n) (s := s)
  obtain ⟨g, hs⟩ := h.go hb hq hc
  have ct := c_ta (hi := hi) h.2.2.2.1 h.1 h.2.2.1 (x := nI (1000 + q)) (by rw [h.2.2.2.2]; exact hc)
  have ha : a ≠ 0 ∧ a ≠ 2 ∧ a < 13 ∧ a ≠ 11 := by omega
  rw [ct]
  unfold fX11_readNumber fX11_readNumber_29
  have e1 : (-1 : Int32).toInt = -1 := rfl
  have e0 : (0 : Int32).toInt = 0 := rfl
  rcases j_num hb g hi with ⟨x, i', τ', a1, a2, a3, a4, a5, a6, a7, a8, a9, a10⟩ | ⟨p, τ', a1, a2, a3, a4, a5⟩
  · rw [a1, bi_some, a2, bi_some, if_pos (show (0 : Int32) ≤ x by rw [q_le]; omega), q_ib (by omega) (by omega), if_pos rfl, if_neg (show ¬ x < 0 by rw [q_lt]; omega), nI_clamp (by omega)]
    have e86 : τ' 86 = τ 86 := a8.1 86 (by omega)
    have row : pn_up τ' 86 a x 86 = upd (τ 86) a x := by rw [pn_up_row, e86]
    refine Or.inl ⟨pn_up (pn_up (pn_up σ 1 6 (nI (k + 1))) 1 6 (nI (k + 1 + 1))) 8 f x, pn_up τ' 86 a x, k + 1 + 1, i', ?_, rfl, ?_, by omega, ?_, ?_, ?_, ?_⟩
    · unfold fX9_readSetting_159
      rw [pn_up_a _ _ _ _ (by omega), a7.1.2.2.2.1, if_pos rfl]
    · exact a7.v (pn_up_a _ _ _ _ (by omega)) (pn_up_a _ _ _ _ (by omega)) (pn_up_a _ _ _ _ (by omega)) (by rw [pn_up_a _ _ _ _ (by omega)]) (by rw [pn_up_a _ _ _ _ (by omega)]) (pn_up_a _ _ _ _ (by omega))
    · rw [row]
      have c8 : CV (pn_up (pn_up σ 1 6 (nI (k + 1))) 1 6 (nI (k + 1 + 1))) 8 (τ 86) := cv_fr hC (by rw [pn_up_a _ _ _ _ (by omega), pn_up_a _ _ _ _ (by omega)]) (by rw [pn_up_a _ _ _ _ (by omega), pn_up_a _ _ _ _ (by omega)]) (by rw [pn_up_a _ _ _ _ (by omega), pn_up_a _ _ _ _ (by omega)])
      exact cv_fld c8 f a x hfa
    · rw [row]
      exact vw_f hw (by omega) (by omega) (Or.inr (Or.inr (hx x a4 a5 a6)))
    · exact ((FrK_up (by omega)).tr (FrK_up (by omega))).tr (FrK_up (by omega))
    · exact (FrV_P a8).tr (FrV_86 (by omega))
  · rw [a2, bi_some, a3, bi_some, if_neg (show ¬ (0 : Int32) ≤ -1 by decide), q_ib (by omega) (by omega), if_pos rfl, if_pos rfl, if_pos (show (-1 : Int32) < 0 by decide), nI_clamp (by omega)]
    have bd : Bad (pn_up (pn_up σ 1 6 (nI (k + 1))) 1 7 (nI p)) := bad_7 (by have := hb.1; omega)
    refine Or.inr ⟨pn_up (pn_up (pn_up σ 1 6 (nI (k + 1))) 1 7 (nI p)) 8 f (-1), pn_up τ' 86 a (τ' 86 a), p, ?_, rfl, a1, ?_, ?_, ?_, (FrV_P a5).tr (FrV_86 (by omega))⟩
    · unfold fX9_readSetting_159
      rw [pn_up_a _ _ _ _ (by omega), if_neg bd]
    · rw [pn_up_a _ _ _ _ (by omega), pn_up_s]
    · rw [pn_up_a _ _ _ _ (by omega)]; exact a4
    · exact ((FrK_up (by omega)).tr (FrK_up (by omega))).tr (FrK_up (by omega))
theorem ppl {σ : pn_S} {V : pn_V} (h : CV σ 8 V) (hw : VW V) : σ 8 2 = nI (vn V) := by rw [h.1.1, hw.n.1]
theorem pm1 {N : Nat} (h : N ≤ 8) : (nI N - 1).toInt = N - 1 := by
  have e2 : (nI N).toInt = N := nI_toInt (by omega)
  have e3 : (1 : Int32).toInt = 1 := rfl
  rw [q_sub (by omega) (by omega)]
  omega
/-- a person told behind a word -/
theorem j_told (hb : HB c w n) {σ τ : pn_S} {k s q : Nat} (h : LSt c w n T P m σ τ k s) (hC : CV σ 8 (τ 86)) (hw : VW (τ 86)) (hq : q < 27) (hc : cod c n s = nI (1000 + q)) :
    (∃ p i' σ' τ', p < vn (τ 86) ∧ fX7_takeNumberAfter (nI (1000 + q)) (σ 8 2 - 1) σ = some (nI p, σ') ∧ fX11_personTold τ = some (nI p, τ') ∧ JS c w n T P m σ' τ' (k + 2) i' ∧ FrP τ τ' ∧ s < i' ∧ Fr1 σ σ') ∨
    (∃ p σ' τ', p ≤ n ∧ fX7_takeNumberAfter (nI (1000 + q)) (σ 8 2 - 1) σ = some (-1, σ') ∧ fX11_personTold τ = some (-1, τ') ∧ τ' 85 12 = nI p ∧ σ' 1 7 = nI p ∧ FrP τ τ' ∧ Fr1 σ σ') := by
  have hn := hw.n.2
  have gt := en_gt c (n := n) (s := s)
  obtain ⟨g, hs⟩ := h.go hb hq hc
  have e8 := ppl hC hw
  have ct := c_ta (hi := σ 8 2 - 1) h.2.2.2.1 h.1 h.2.2.1 (x := nI (1000 + q)) (by rw [h.2.2.2.2]; exact hc)
  rw [ct]
  unfold fX11_personTold
  rw [r_people hw, Option.bind_some, e8]
  rcases j_num hb g (nI (vn (τ 86)) - 1) with ⟨x, i', τ', a1, a2, a3, a4, a5, a6, a7, a8, a9, a10⟩ | ⟨p, τ', a1, a2, a3, a4, a5⟩
  · rw [pm1 hn] at a5
    obtain ⟨p, hp, ex⟩ := rg_k (a := x) (n := vn (τ 86)) a4 (by omega)
    refine Or.inl ⟨p, i', _, τ', hp, by rw [a1, ex], by rw [a2, bi_some, ex], a7, a8, by omega, (Fr1_up (by omega)).tr (Fr1_up (by omega))⟩
  · exact Or.inr ⟨p, _, τ', a1, a2, by rw [a3, bi_some], a4, pn_up_s _ _ _ _, a5, (Fr1_up (by omega)).tr (Fr1_up (by omega))⟩
theorem FrK_1 {σ σ' : pn_S} (h : Fr1 σ σ') : FrK σ σ' := ⟨fun i q1 _ _ _ => h.1 i q1, h.2⟩
theorem cv_1 {σ σ' : pn_S} {V : pn_V} (hC : CV σ 8 V) (h : Fr1 σ σ') : CV σ' 8 V := cv_fr hC (h.1 8 (by omega)) (h.1 9 (by omega)) (h.1 10 (by omega))
theorem p7 {p : Nat} (hp : p ≤ 400) : ¬ nI p = -1 := fun h => by
  have := congrArg Int32.toInt h
  rw [nI_toInt (by omega)] at this
  have e : (-1 : Int32).toInt = -1 := rfl
  omega
theorem j_target (hb : HB c w n) {σ τ : pn_S} {k s : Nat} (h : LSt c w n T P m σ τ k s) (hC : CV σ 8 (τ 86)) (hw : VW (τ 86)) (hc : cod c n s = nI (1000 + 10)) : JL c w n T P m σ τ s (fX9_readTarget σ) (fX11_readTarget τ) := by
  have hn := hw.n.2
  unfold fX9_readTarget fX11_readTarget
  rcases j_told hb h hC hw (q := 10) (by omega) hc with ⟨p, i', σ', τ', a1, a2, a3, a4, a5, a6, a7⟩ | ⟨p, σ', τ', a1, a2, a3, a4, a5, a6, a7⟩
  · have a2 : fX7_takeNumberAfter 1010 (σ 8 2 - 1) σ = some (nI p, σ') := a2
    have e86 : τ' 86 = τ 86 := a5.1 86 (by omega)
    have aim := c_aim (cv_1 hC a7) (nI p)
    rw [a2, bi_some, a4.1.2.2.2.1, if_pos rfl, aim.1, Option.bind_some, a3, bi_some, if_pos (show (0 : Int32) ≤ nI p by rw [q_le, nI_toInt (by omega)]; show (0 : Int) ≤ _; omega)]
    have row : pn_up (pn_up τ' 86 5 (nI p)) 86 6 0 86 = upd (upd (τ 86) 5 (nI p)) 6 0 := by rw [pn_up_row, pn_up_row, e86]
    refine Or.inl ⟨_, _, k + 2, i', rfl, rfl, a4.v (by rw [pn_up_a _ _ _ _ (by omega), pn_up_a _ _ _ _ (by omega)]) (by rw [pn_up_a _ _ _ _ (by omega), pn_up_a _ _ _ _ (by omega)]) (by rw [pn_up_a _ _ _ _ (by omega), pn_up_a _ _ _ _ (by omega)]) (by rw [pn_up_a _ _ _ _ (by omega), pn_up_a _ _ _ _ (by omega)]) (by rw [pn_up_a _ _ _ _ (by omega), pn_up_a _ _ _ _ (by omega)]) (by rw [pn_up_a _ _ _ _ (by omega), pn_up_a _ _ _ _ (by omega)]), a6, by rw [row]; exact aim.2, ?_, ((FrK_1 a7).tr (FrK_up (by omega))).tr (FrK_up (by omega)), ((FrV_P a5).tr (FrV_86 (by omega))).tr (FrV_86 (by omega))⟩
    rw [row]
    have w1 : VW (upd (τ 86) 5 (nI p)) := vw_f hw (by omega) (by omega) (Or.inr (Or.inr ⟨by rw [nI_toInt (by omega)]; show (-1 : Int) ≤ _; omega, by rw [nI_toInt (by omega)]; show _ ≤ (vn (τ 86) : Int) - 1; omega⟩))
    exact vw_f w1 (by omega) (by omega) (Or.inr (Or.inr ⟨by show (0 : Int) ≤ 0; omega, by show (0 : Int) ≤ 2; omega⟩))
  · have a2 : fX7_takeNumberAfter 1010 (σ 8 2 - 1) σ = some (-1, σ') := a2
    rw [a2, bi_some, a5, if_neg (p7 (by have := hb.1; omega)), a3, bi_some, if_neg (show ¬ (0 : Int32) ≤ -1 by decide)]
    exact Or.inr ⟨σ', τ', p, rfl, rfl, a1, a5, a4, FrK_1 a7, FrV_P a6⟩
theorem j_wrong (hb : HB c w n) {σ τ : pn_S} {k s : Nat} (h : LSt c w n T P m σ τ k s) (hC : CV σ 8 (τ 86)) (hw : VW (τ 86)) (hc : cod c n s = nI (1000 + 7)) : JL c w n T P m σ τ s (fX9_readWrong σ) (fX11_readWrong τ) := by
  have hn := hw.n.2
  have h400 := hb.1
  unfold fX9_readWrong fX11_readWrong
  rcases j_told hb h hC hw (q := 7) (by omega) hc with ⟨p, i', σ', τ', a1, a2, a3, a4, a5, a6, a7⟩ | ⟨p, σ', τ', a1, a2, a3, a4, a5, a6, a7⟩
  · have a2 : fX7_takeNumberAfter 1007 (σ 8 2 - 1) σ = some (nI p, σ') := a2
    have e86 : τ' 86 = τ 86 := a5.1 86 (by omega)
    have np : ¬ nI p < 0 := nI_pos (by omega)
    have ea : fX11_at (nI p) 4 τ' = some (nI (13 + 8 * p + 4)) := r_at'
    rw [a2, bi_some, a3, bi_some, if_neg np, ea, Option.bind_some]
    unfold fX11_readNumber fX11_readNumber_29
    rcases j_num hb a4 9 with ⟨x, i2, τ2, b1, b2, b3, b4, b5, b6, b7, b8, b9, b10⟩ | ⟨p2, τ2, b1, b2, b3, b4, b5⟩
    · have cv2 : CV (pn_up σ' 1 6 (nI (k + 2 + 1))) 8 (τ 86) := cv_1 hC (a7.tr (Fr1_up (by omega)))
      have tl := c_tell cv2 hw a1 (k := 4) (by omega) x
      have tl1 : fX8_tell 8 (nI p) 4 x (pn_up σ' 1 6 (nI (k + 2 + 1))) = some (tr (τ 86) p 4, pn_up (pn_up σ' 1 6 (nI (k + 2 + 1))) 9 (8 * p + 4) x) := tl.1
      rw [b1, bi_some, b7.1.2.2.2.1, if_pos rfl, tl1, bi_some, b2, bi_some, if_pos (show (0 : Int32) ≤ x by rw [q_le]; exact b4), q_ib (by omega) (by omega), if_pos rfl, if_neg (show ¬ x < 0 by rw [q_lt]; show ¬ _ < (0 : Int); omega), nI_clamp (by omega), bi_some, if_neg (by decide)]
      have row : pn_up τ2 86 (13 + 8 * p + 4) x 86 = upd (τ 86) (13 + 8 * p + 4) x := by rw [pn_up_row, b8.1 86 (by omega), e86]
      exact Or.inl ⟨_, _, k + 2 + 1, i2, rfl, rfl, b7.v (by rw [pn_up_a _ _ _ _ (by omega)]) (by rw [pn_up_a _ _ _ _ (by omega)]) (by rw [pn_up_a _ _ _ _ (by omega)]) (by rw [pn_up_a _ _ _ _ (by omega)]) (by rw [pn_up_a _ _ _ _ (by omega)]) (by rw [pn_up_a _ _ _ _ (by omega)]), by omega, by rw [row]; exact tl.2, by rw [row]; exact vw_tr hw (by omega) ⟨b4, b5⟩, ((FrK_1 a7).tr (FrK_up (by omega))).tr (FrK_up (by omega)), ((FrV_P a5).tr (FrV_P b8)).tr (FrV_86 (by omega))⟩
    · have bd : Bad (pn_up σ' 1 7 (nI p2)) := bad_7 (by omega)
      rw [b2, bi_some, if_neg bd, b3, bi_some, if_neg (show ¬ (0 : Int32) ≤ -1 by decide), q_ib (by omega) (by omega), if_pos rfl, if_pos rfl, if_pos (show (-1 : Int32) < 0 by decide), bi_some, if_pos rfl]
      exact Or.inr ⟨_, _, p2, rfl, rfl, b1, pn_up_s _ _ _ _, by rw [pn_up_a _ _ _ _ (by omega)]; exact b4, (FrK_1 a7).tr (FrK_up (by omega)), ((FrV_P a5).tr (FrV_P b5)).tr (FrV_86 (by rw [nI_clamp (by omega)]; omega))⟩
  · have a2 : fX7_takeNumberAfter 1007 (σ 8 2 - 1) σ = some (-1, σ') := a2
    have bd : Bad σ' := by unfold Bad; rw [a5]; exact p7 (by omega)
    rw [a2, bi_some, b_tn bd (by decide), bi_some, if_neg bd, a3, bi_some, if_pos (by decide)]
    exact Or.inr ⟨σ', τ', p, rfl, rfl, a1, a5, a4, FrK_1 a7, FrV_P a6⟩
end
