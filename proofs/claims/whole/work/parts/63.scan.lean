/-! PURE: the reference scans, the class takes -/
section
variable {c w : Nat → Int32} {n : Nat}
def HB (c w : Nat → Int32) (n : Nat) : Prop := n ≤ 400 ∧ ∀ i, i < n → c i = w i &&& 255 ∧ rg (w i) (-128) 127
theorem HB.at (h : HB c w n) {i : Nat} (hi : i < n) : (0 ≤ (w i).toInt ∧ c i = w i) ∨ ((w i).toInt < 0 ∧ 128 ≤ (c i).toInt) := by
  obtain ⟨a, b⟩ := h.2 i hi
  have := b255 b
  by_cases q : 0 ≤ (w i).toInt
  · exact Or.inl ⟨q, by rw [a, this.1 q]⟩
  · exact Or.inr ⟨by omega, by rw [a]; exact this.2 (by omega)⟩
theorem HB.c0 (h : HB c w n) {i : Nat} (hi : i < n) : 0 ≤ (c i).toInt ∧ (c i).toInt ≤ 255 := by
  obtain ⟨a, b⟩ := h.2 i hi
  rw [a]
  have := b255 b
  by_cases q : 0 ≤ (w i).toInt
  · rw [this.1 q]; have := b.2; omega
  · have := this.2 (by omega)
    refine ⟨by omega, ?_⟩
    have e : ∃ k, k < 256 ∧ w i &&& 255 = nI k := s8_nat (s8_and' (fun j hj => by rw [b_255]; exact decide_eq_false (by omega)))
    obtain ⟨k, hk, e⟩ := e
    rw [e, nI_toInt (by omega)]
    omega
def RJ (w : Nat → Int32) (n i : Nat) (τ : pn_S) : Prop := τ 85 10 = nI i ∧ τ 85 11 = nI n ∧ τ 91 = w ∧ i ≤ n
def FrP (τ τ' : pn_S) : Prop := (∀ i, i ≠ 85 → τ' i = τ i) ∧ ∀ k, k ≠ 10 → k ≠ 12 → τ' 85 k = τ 85 k
theorem FrP.rf {τ : pn_S} : FrP τ τ := ⟨fun _ _ => rfl, fun _ _ _ => rfl⟩
theorem FrP.tr {a b d : pn_S} (h : FrP a b) (h2 : FrP b d) : FrP a d := ⟨fun i q => (h2.1 i q).trans (h.1 i q), fun k q1 q2 => (h2.2 k q1 q2).trans (h.2 k q1 q2)⟩
theorem FrP_up {τ : pn_S} {k : Nat} {x : Int32} (h : k = 10 ∨ k = 12) : FrP τ (pn_up τ 85 k x) := ⟨fun i q => pn_up_a _ _ _ _ q, fun j q1 q2 => pn_up_k _ _ _ _ (by omega)⟩
theorem RJ.up {τ τ' : pn_S} {i j : Nat} (h : RJ w n i τ) (f : FrP τ τ') (e : τ' 85 10 = nI j) (hj : j ≤ n) : RJ w n j τ' := ⟨e, (f.2 11 (by omega) (by omega)).trans h.2.1, (f.1 91 (by omega)).trans h.2.2.1, hj⟩
theorem r_isAt (hb : HB c w n) {τ : pn_S} {i : Nat} (h : RJ w n i τ) {lo hi : Int32} (h0 : 0 ≤ lo.toInt) (h1 : hi.toInt ≤ 127) : fX11_isAt lo hi τ = some (b01 (inB c n lo.toInt hi.toInt i)) := by
  have hn := hb.1
  obtain ⟨a1, a2, a3, a4⟩ := h
  unfold fX11_isAt
  rw [a2, a1, a3]
  by_cases q : i < n
  · rw [if_neg (nI_ge q (by omega)), q_ib (by omega) (by omega), if_pos rfl, if_pos rfl, nI_clamp (by omega), inB_at q]
    rcases hb.at q with ⟨z1, z2⟩ | ⟨z1, z2⟩
    · rw [z2]
      by_cases y1 : w i < lo
      · rw [if_pos y1, decide_eq_false (by rw [q_lt] at y1; omega)]; rfl
      · rw [if_neg y1]
        by_cases y2 : hi < w i
        · rw [if_pos y2, decide_eq_false (by rw [q_lt] at y2; omega)]; rfl
        · rw [if_neg y2, decide_eq_true (by rw [q_lt] at y1 y2; omega)]; rfl
    · rw [if_pos (by rw [q_lt]; omega), decide_eq_false (by omega)]; rfl
  · rw [if_pos (nI_le (by omega) (by omega)), inB_n i (by omega)]; rfl
theorem r_blk_loop (hb : HB c w n) : ∀ (d i f : Nat) (τ : pn_S), n - i = d → d < f → RJ w n i τ → ∃ τ', fX11_blanks_0 f τ = some τ' ∧ τ' 85 12 = nI (sk c n i) ∧ τ' 85 10 = nI (sk c n i) ∧ FrP τ τ' := by
  intro d
  induction d with
  | zero =>
    intro i f τ hd hf h
    match f, hf with
    | f + 1, _ =>
      have e := r_isAt hb h (lo := 32) (hi := 32) (by decide) (by decide)
      have z : inB c n (32 : Int32).toInt (32 : Int32).toInt i = false := inB_n i (by omega)
      rw [z] at e
      have es : sk c n i = i := rnn_f z
      refine ⟨pn_up τ 85 12 (τ 85 10), by rw [fX11_blanks_0, e, Option.bind_some, if_pos (show b01 false = 0 from rfl)], by rw [pn_up_s, es]; exact h.1, by rw [pn_up_k _ _ _ _ (by omega), es]; exact h.1, FrP_up (Or.inr rfl)⟩
  | succ d ih =>
    intro i f τ hd hf h
    match f, hf with
    | f + 1, hf =>
      have e := r_isAt hb h (lo := 32) (hi := 32) (by decide) (by decide)
      cases z : inB c n 32 32 i with
      | false =>
        have z' : inB c n (32 : Int32).toInt (32 : Int32).toInt i = false := z
        rw [z'] at e
        have es : sk c n i = i := rnn_f z
        exact ⟨pn_up τ 85 12 (τ 85 10), by rw [fX11_blanks_0, e, Option.bind_some, if_pos (show b01 false = 0 from rfl)], by rw [pn_up_s, es]; exact h.1, by rw [pn_up_k _ _ _ _ (by omega), es]; exact h.1, FrP_up (Or.inr rfl)⟩
      | true =>
        have z' : inB c n (32 : Int32).toInt (32 : Int32).toInt i = true := z
        rw [z'] at e
        have es : sk c n i = sk c n (i + 1) := rnn_t inB_n z
        have hi := (inB_lt z).1
        have fr : FrP τ (pn_up τ 85 10 (nI (i + 1))) := FrP_up (Or.inl rfl)
        obtain ⟨τ', g1, g2, g3, g4⟩ := ih (i + 1) f (pn_up τ 85 10 (nI (i + 1))) (by omega) (by omega) (h.up fr (pn_up_s _ _ _ _) (by omega))
        refine ⟨τ', by rw [fX11_blanks_0, e, Option.bind_some, if_neg (show ¬ b01 true = 0 by decide), h.1, nI_1]; exact g1, by rw [es]; exact g2, by rw [es]; exact g3, fr.tr g4⟩
theorem r_blk (hb : HB c w n) {τ : pn_S} {i : Nat} (h : RJ w n i τ) : ∃ τ', fX11_blanks τ = some τ' ∧ τ' 85 12 = nI (sk c n i) ∧ RJ w n (sk c n i) τ' ∧ FrP τ τ' := by
  obtain ⟨τ', g1, g2, g3, g4⟩ := r_blk_loop hb (n - i) i 5000 τ rfl (by have := hb.1; omega) h
  exact ⟨τ', g1, g2, h.up g4 g3 (rnn_le _ h.2.2.2), g4⟩
theorem r_let_loop (hb : HB c w n) : ∀ (d i f : Nat) (τ : pn_S), n - i = d → d < f → RJ w n i τ → ∃ τ', fX11_letters_4 f τ = some τ' ∧ τ' 85 12 = τ 85 12 ∧ τ' 85 10 = nI (lt c n i) ∧ FrP τ τ' := by
  intro d
  induction d with
  | zero =>
    intro i f τ hd hf h
    match f, hf with
    | f + 1, _ =>
      have e := r_isAt hb h (lo := 97) (hi := 122) (by decide) (by decide)
      have z : inB c n (97 : Int32).toInt (122 : Int32).toInt i = false := inB_n i (by omega)
      rw [z] at e
      have es : lt c n i = i := rnn_f z
      exact ⟨τ, by rw [fX11_letters_4, e, Option.bind_some, if_pos (show b01 false = 0 from rfl)], rfl, by rw [es]; exact h.1, FrP.rf⟩
  | succ d ih =>
    intro i f τ hd hf h
    match f, hf with
    | f + 1, hf =>
      have e := r_isAt hb h (lo := 97) (hi := 122) (by decide) (by decide)
      cases z : inB c n 97 122 i with
      | false =>
        have z' : inB c n (97 : Int32).toInt (122 : Int32).toInt i = false := z
        rw [z'] at e
        have es : lt c n i = i := rnn_f z
        exact ⟨τ, by rw [fX11_letters_4, e, Option.bind_some, if_pos (show b01 false = 0 from rfl)], rfl, by rw [es]; exact h.1, FrP.rf⟩
      | true =>
        have z' : inB c n (97 : Int32).toInt (122 : Int32).toInt i = true := z
        rw [z'] at e
        have es : lt c n i = lt c n (i + 1) := rnn_t inB_n z
        have hi := (inB_lt z).1
        have fr : FrP τ (pn_up τ 85 10 (nI (i + 1))) := FrP_up (Or.inl rfl)
        obtain ⟨τ', g1, g2, g3, g4⟩ := ih (i + 1) f (pn_up τ 85 10 (nI (i + 1))) (by omega) (by omega) (h.up fr (pn_up_s _ _ _ _) (by omega))
        exact ⟨τ', by rw [fX11_letters_4, e, Option.bind_some, if_neg (show ¬ b01 true = 0 by decide), h.1, nI_1]; exact g1, by rw [g2, pn_up_k _ _ _ _ (by omega)], by rw [es]; exact g3, fr.tr g4⟩
/-- behind the letters of the thing at s -/
def LJ (c w : Nat → Int32) (n s : Nat) (τ : pn_S) : Prop := RJ w n (lt c n s) τ ∧ τ 85 12 = nI s ∧ s ≤ n
theorem r_let (hb : HB c w n) {τ : pn_S} {i : Nat} (h : RJ w n i τ) : ∃ τ', fX11_letters τ = some τ' ∧ LJ c w n (sk c n i) τ' ∧ FrP τ τ' := by
  obtain ⟨τ1, g1, g2, g3, g4⟩ := r_blk hb h
  obtain ⟨τ', k1, k2, k3, k4⟩ := r_let_loop hb (n - sk c n i) (sk c n i) 5000 τ1 rfl (by have := hb.1; omega) g3
  refine ⟨τ', by unfold fX11_letters; rw [g1, Option.bind_some]; exact k1, ⟨g3.up k4 k3 (rnn_le _ g3.2.2.2), k2.trans g2, g3.2.2.2⟩, g4.tr k4⟩
theorem let_hi : ∀ j, j < 28 → 1 ≤ j → ∀ x, x < (pn_sb.getD j []).length → 97 ≤ ((pn_sb.getD j []).getD x 0).toInt ∧ ((pn_sb.getD j []).getD x 0).toInt ≤ 122 := by decide +kernel
theorem lm_drop (c : Nat → Int32) (W : List Int32) {x s : Nat} (h : x < W.length) : lm c (W.drop x) s = (decide (c s = W.getD x 0) && lm c (W.drop (x + 1)) (s + 1)) := by
  rw [List.drop_eq_getElem_cons h, lm, List.getD_eq_getElem?_getD, List.getElem?_eq_getElem h]
  rfl
theorem r_isw (hb : HB c w n) {τ : pn_S} {s j : Nat} (h : LJ c w n s τ) (hj : j < 28) (hj1 : 1 ≤ j) : fX11_isWord j τ = some (b01 (mB c (pn_sb.getD j []) s (lt c n s))) := by
  have hn := hb.1
  obtain ⟨⟨a1, a2, a3, a4⟩, h12, hs⟩ := h
  have hle := rnn_ge (inB c n 97 122) n s
  have ge : s ≤ lt c n s := hle
  have l10 : (pn_sb.getD j []).length < 10 := (by decide +kernel : ∀ j, j < 28 → 1 ≤ j → (pn_sb.getD j []).length < 10) j hj hj1
  have zero : ∀ f x, fX11_isWord_24 j (f + 1) 0 x τ = some 0 := fun f x => by rw [fX11_isWord_24, if_pos rfl, if_pos (by decide)]
  unfold fX11_isWord mB
  rw [j_len hj, Option.bind_some, a1, h12, sub_nI ge (by omega)]
  by_cases q : lt c n s = s + (pn_sb.getD j []).length
  · rw [if_pos (by rw [q, show s + (pn_sb.getD j []).length - s = (pn_sb.getD j []).length by omega]), decide_eq_true q, Bool.true_and]
    have key : ∀ (d x f : Nat), x + d = (pn_sb.getD j []).length → d + 1 < f → fX11_isWord_24 j f 1 (nI x) τ = some (b01 (lm c ((pn_sb.getD j []).drop x) (s + x))) := by
      intro d
      induction d with
      | zero =>
        intro x f hx hf
        match f, hf with
        | f + 1, _ =>
          rw [fX11_isWord_24, if_neg (by decide), j_len hj, Option.bind_some, if_pos (nI_le (by omega) (by omega)), if_pos (by decide), List.drop_of_length_le (by omega)]
          rfl
      | succ d ih =>
        intro x f hx hf
        match f, hf with
        | f + 1 + 1, hf =>
          have hx2 : x < (pn_sb.getD j []).length := by omega
          have hi := let_hi j hj hj1 x hx2
          rw [fX11_isWord_24, if_neg (by decide), j_len hj, Option.bind_some, if_neg (nI_ge hx2 (by omega)), h12, nI_add, q_ib (by omega) (by omega), if_pos rfl, j_chr hj hx2, Option.bind_some, nI_clamp (by omega), a3, nI_1, lm_drop c _ hx2]
          have iff : w (s + x) = (pn_sb.getD j []).getD x 0 ↔ c (s + x) = (pn_sb.getD j []).getD x 0 := by
            rcases hb.at (i := s + x) (by omega) with ⟨z1, z2⟩ | ⟨z1, z2⟩
            · rw [z2]
            · refine ⟨fun e => ?_, fun e => ?_⟩
              · rw [e] at z1; omega
              · rw [e] at z2; omega
          by_cases z : c (s + x) = (pn_sb.getD j []).getD x 0
          · rw [if_pos (iff.mpr z), decide_eq_true z, Bool.true_and, ih (x + 1) (f + 1) (by omega) (by omega)]
            rfl
          · rw [if_neg (fun e => z (iff.mp e)), decide_eq_false z, Bool.false_and, zero]
            rfl
    exact key (pn_sb.getD j []).length 0 5000 (by omega) (by omega)
  · rw [if_neg (fun e => q (by have := (nI_eq (a := lt c n s - s) (b := (pn_sb.getD j []).length) (by omega) (by omega)).mp e; omega)), decide_eq_false q, Bool.false_and, zero 4999]
    rfl
/-! what the codes are -/
theorem nva_rg (hb : HB c w n) {s e : Nat} (hs : ∀ i, s ≤ i → i < e → inB c n 48 57 i = true) : ∀ d, s + d ≤ e → d ≤ 3 → 0 ≤ (fo (fun i v => 10 * v + c i - 48) s d 0).toInt ∧ (fo (fun i v => 10 * v + c i - 48) s d 0).toInt < 10 ^ d := by
  intro d
  induction d with
  | zero => intro _ _; exact ⟨by show (0 : Int) ≤ 0; omega, by show (0 : Int) < 1; omega⟩
  | succ d ih =>
    intro h1 h2
    obtain ⟨a, b⟩ := ih (by omega) (by omega)
    have r := inB_lt (hs (s + d) (by omega) (by omega))
    rw [fo_last]
    have e10 : (10 : Int32).toInt = 10 := rfl
    have e48 : (48 : Int32).toInt = 48 := rfl
    have p3 : (10 : Int) ^ d ≤ 100 := by
      match d, h2 with
      | 0, _ => decide
      | 1, _ => decide
      | 2, _ => decide
    have ps : (10 : Int) ^ (d + 1) = 10 * 10 ^ d := by rw [Int.pow_succ, Int.mul_comm]
    generalize fo (fun i v => 10 * v + c i - 48) s d 0 = v at a b ⊢
    show 0 ≤ (10 * v + c (s + d) - 48).toInt ∧ (10 * v + c (s + d) - 48).toInt < _
    have m1 : (10 * v).toInt = 10 * v.toInt := by rw [q_mul (by rw [e10]; omega) (by rw [e10]; omega), e10]
    have m2 : (10 * v + c (s + d)).toInt = 10 * v.toInt + (c (s + d)).toInt := by rw [q_add (by omega) (by omega), m1]
    rw [q_sub (by omega) (by omega), m2, e48, ps]
    exact ⟨by omega, by omega⟩
theorem wco_hi (c : Nat → Int32) (s e : Nat) : 1000 ≤ (wco c s e).toInt ∧ (wco c s e).toInt ≤ 3000 := by
  have key : ∀ (Ws : List (List Int32)) (q : Nat), 1000 ≤ q → q + Ws.length ≤ 3000 → 1000 ≤ (fw c s e Ws q).toInt ∧ (fw c s e Ws q).toInt ≤ 3000 := by
    intro Ws
    induction Ws with
    | nil => intro q _ _; exact ⟨by show (1000 : Int) ≤ 3000; omega, by show (3000 : Int) ≤ 3000; omega⟩
    | cons W r ih =>
      intro q h1 h2
      rw [List.length_cons] at h2
      rw [fw]
      split
      · rw [nI_toInt (by omega)]; omega
      · exact ih (q + 1) (by omega) (by omega)
  exact key Wsl 1000 (by omega) (by have : Wsl.length = 27 := (by decide); omega)
theorem cod_dig (hb : HB c w n) {s : Nat} (h : inB c n 48 57 s = true) : (dg c n s - s ≤ 3 → cod c n s = nva c s (dg c n s) ∧ 0 ≤ (cod c n s).toInt ∧ (cod c n s).toInt ≤ 999) ∧ (¬ dg c n s - s ≤ 3 → cod c n s = 3000) := by
  have r := inB_lt h
  have nl : inB c n 97 122 s = false := by unfold inB; exact decide_eq_false (by omega)
  unfold cod
  rw [if_neg (by omega), nl, if_neg (show ¬ false = true by decide), if_pos h]
  refine ⟨fun z => ?_, fun z => if_neg z⟩
  rw [if_pos z]
  refine ⟨rfl, ?_⟩
  have ge : s ≤ dg c n s := rnn_ge _ _ _
  have := nva_rg hb (s := s) (e := dg c n s) (fun i h1 h2 => rnn_in inB_n (n - s) s rfl i h1 h2) (dg c n s - s) (by omega) z
  have p3 : (10 : Int) ^ (dg c n s - s) ≤ 1000 := by
    match dg c n s - s, z with
    | 0, _ => decide
    | 1, _ => decide
    | 2, _ => decide
    | 3, _ => decide
  unfold nva
  exact ⟨this.1, by omega⟩
theorem cod_nd (hb : HB c w n) {s : Nat} (h : inB c n 48 57 s = false) : 1000 ≤ (cod c n s).toInt ∧ (cod c n s).toInt ≤ 3001 := by
  unfold cod
  by_cases q : n ≤ s
  · rw [if_pos q]; exact ⟨by show (1000 : Int) ≤ 3001; omega, by show (3001 : Int) ≤ 3001; omega⟩
  · rw [if_neg q]
    by_cases z : inB c n 97 122 s = true
    · rw [if_pos z]; have := wco_hi c s (lt c n s); omega
    · rw [if_neg z, if_neg (by rw [h]; decide)]
      have := hb.c0 (i := s) (by omega)
      have e : (2000 : Int32).toInt = 2000 := rfl
      rw [q_add (by omega) (by omega), e]
      omega
theorem cod_rg (hb : HB c w n) (s : Nat) : 0 ≤ (cod c n s).toInt ∧ (cod c n s).toInt ≤ 3001 := by
  cases h : inB c n 48 57 s with
  | false => have := cod_nd hb h; omega
  | true =>
    by_cases z : dg c n s - s ≤ 3
    · have := ((cod_dig hb h).1 z).2; omega
    · rw [(cod_dig hb h).2 z]; exact ⟨by decide, by decide⟩
theorem sgn_cod (hb : HB c w n) {s : Nat} (hs : s < n) (h1 : inB c n 97 122 s = false) (h2 : inB c n 48 57 s = false) : cod c n s = 2000 + c s ∧ (cod c n s).toInt = 2000 + (c s).toInt := by
  have e : cod c n s = 2000 + c s := by unfold cod; rw [if_neg (by omega), if_neg (by rw [h1]; decide), if_neg (by rw [h2]; decide)]
  refine ⟨e, ?_⟩
  have := hb.c0 hs
  have e2 : (2000 : Int32).toInt = 2000 := rfl
  rw [e, q_add (by omega) (by omega), e2]
/-- a sign -/
theorem cod_sg (hb : HB c w n) {s : Nat} {ch : Int} (hs : s ≤ n) (hch : 0 ≤ ch ∧ ch ≤ 127) (hnl : ch < 97 ∨ 122 < ch) (hnd : ch < 48 ∨ 57 < ch) : inB c n ch ch s = true ↔ (cod c n s).toInt = 2000 + ch := by
  constructor
  · intro h
    have r := inB_lt h
    have h1 : inB c n 97 122 s = false := by unfold inB; exact decide_eq_false (by omega)
    have h2 : inB c n 48 57 s = false := by unfold inB; exact decide_eq_false (by omega)
    rw [(sgn_cod hb r.1 h1 h2).2]
    omega
  · intro h
    have hlt : s < n := by
      rcases Nat.lt_or_ge s n with q | q
      · exact q
      · unfold cod at h
        rw [if_pos q] at h
        have : (3001 : Int32).toInt = 3001 := rfl
        omega
    have h2 : inB c n 48 57 s = false := by
      cases z : inB c n 48 57 s with
      | false => rfl
      | true =>
        exfalso
        by_cases y : dg c n s - s ≤ 3
        · have := ((cod_dig hb z).1 y).2; omega
        · rw [(cod_dig hb z).2 y] at h
          have : (3000 : Int32).toInt = 3000 := rfl
          omega
    have h1 : inB c n 97 122 s = false := by
      cases z : inB c n 97 122 s with
      | false => rfl
      | true =>
        exfalso
        unfold cod at h
        rw [if_neg (by omega), if_pos z] at h
        unfold wco at h
        have key : ∀ (Ws : List (List Int32)) (q : Nat), q + Ws.length ≤ 2000 → (fw c s (lt c n s) Ws q).toInt < 2000 ∨ (fw c s (lt c n s) Ws q).toInt = 3000 := by
          intro Ws
          induction Ws with
          | nil => intro q _; exact Or.inr rfl
          | cons W r ih =>
            intro q h2
            rw [List.length_cons] at h2
            rw [fw]
            split
            · rw [nI_toInt (by omega)]; exact Or.inl (by omega)
            · exact ih (q + 1) (by omega)
        have := key Wsl 1000 (by have : Wsl.length = 27 := (by decide); omega)
        omega
    have e := (sgn_cod hb hlt h1 h2).2
    unfold inB
    exact decide_eq_true ⟨hlt, by omega, by omega⟩
theorem cod_end (hb : HB c w n) {s : Nat} (hs : s ≤ n) : cod c n s = 3001 ↔ s = n := by
  constructor
  · intro h
    rcases Nat.lt_or_ge s n with q | q
    · exfalso
      cases z : inB c n 48 57 s with
      | true =>
        by_cases y : dg c n s - s ≤ 3
        · have := ((cod_dig hb z).1 y).2; rw [h] at this; exact absurd this.2 (by decide)
        · have := (cod_dig hb z).2 y; rw [h] at this; exact absurd this (by decide)
      | false =>
        cases z2 : inB c n 97 122 s with
        | true =>
          have e : cod c n s = wco c s (lt c n s) := by unfold cod; rw [if_neg (by omega), if_pos z2]
          have := (wco_hi c s (lt c n s)).2
          rw [← e, h] at this
          exact absurd this (by decide)
        | false =>
          have := (sgn_cod hb q z2 z).2
          have c0 := hb.c0 q
          rw [h] at this
          have e : (3001 : Int32).toInt = 3001 := rfl
          omega
    · omega
  · intro h
    unfold cod
    rw [if_pos (by omega)]
/-- a word -/
def sid : List Nat := [1, 2, 3, 4, 5, 6, 7, 8, 9, 10, 11, 12, 13, 14, 15, 16, 17, 18, 19, 20, 27, 26, 21, 22, 23, 24, 25]
theorem sid_ok : ∀ k, k < 27 → Wsl.getD k [] = pn_sb.getD (sid.getD k 0) [] ∧ sid.getD k 0 < 28 ∧ 1 ≤ sid.getD k 0 ∧ 0 < (Wsl.getD k []).length := by decide +kernel
theorem cod_wd (hb : HB c w n) {s k : Nat} (hs : s ≤ n) (hk : k < 27) : mB c (Wsl.getD k []) s (lt c n s) = decide (cod c n s = nI (1000 + k)) := by
  have hl := (sid_ok k hk).2.2.2
  have ek : (nI (1000 + k)).toInt = 1000 + k := nI_toInt (by omega)
  cases z : inB c n 97 122 s with
  | true =>
    have r := inB_lt z
    have e : cod c n s = wco c s (lt c n s) := by unfold cod; rw [if_neg (by omega), if_pos z]
    have l27 : Wsl.length = 27 := by decide
    have iff := fw_at (c := c) (s := s) (e := lt c n s) Wsl 1000 k (by omega) (by omega) Wsl_nd
    rw [e]
    unfold wco
    by_cases y : mB c (Wsl.getD k []) s (lt c n s) = true
    · rw [y, decide_eq_true (iff.mpr y)]
    · rw [decide_eq_false (fun u => y (iff.mp u))]
      simpa using y
  | false =>
    have el : lt c n s = s := rnn_f z
    have e1 : mB c (Wsl.getD k []) s (lt c n s) = false := by
      unfold mB
      rw [el, decide_eq_false (by omega), Bool.false_and]
    rw [e1, eq_comm]
    refine decide_eq_false fun u => ?_
    have u2 : (cod c n s).toInt = 1000 + k := by rw [u, ek]
    rcases Nat.lt_or_ge s n with q | q
    · cases y : inB c n 48 57 s with
      | true =>
        by_cases x : dg c n s - s ≤ 3
        · have := ((cod_dig hb y).1 x).2; omega
        · rw [(cod_dig hb y).2 x] at u2
          have : (3000 : Int32).toInt = 3000 := rfl
          omega
      | false =>
        have := (sgn_cod hb q z y).2
        have c0 := hb.c0 q
        omega
    · unfold cod at u2
      rw [if_pos q] at u2
      have : (3001 : Int32).toInt = 3001 := rfl
      omega
theorem r_wd (hb : HB c w n) {τ : pn_S} {s : Nat} (h : LJ c w n s τ) {k : Nat} (hk : k < 27) : fX11_isWord (sid.getD k 0) τ = some (b01 (decide (cod c n s = nI (1000 + k)))) := by
  obtain ⟨a, b, d, _⟩ := sid_ok k hk
  rw [r_isw hb h b d, ← a, cod_wd hb h.2.2 hk]
/-- where a word is, its end is the end of the letters -/
theorem wd_en (hb : HB c w n) {s k : Nat} (hs : s ≤ n) (hk : k < 27) (h : cod c n s = nI (1000 + k)) : en c n s = lt c n s ∧ s < n := by
  have := cod_wd hb hs hk
  rw [decide_eq_true h] at this
  have hl := (sid_ok k hk).2.2.2
  have z : inB c n 97 122 s = true := by
    cases y : inB c n 97 122 s with
    | true => rfl
    | false =>
      have el : lt c n s = s := rnn_f y
      unfold mB at this
      rw [el, Bool.and_eq_true] at this
      have := of_decide_eq_true this.1
      omega
  exact ⟨by unfold en; rw [if_pos z], (inB_lt z).1⟩
end
