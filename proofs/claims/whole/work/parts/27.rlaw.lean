/-! PURE: the reference's law -/
def tS (op : Int32) : Int32 :=
  if op < 1000 then 10 else if op = 1024 then 0 else if op = 1002 then 1 else if op = 1025 then 2 else if op = 1007 then 3 else if op = 1004 then 4 else if op = 1026 then 5 else if op = 1015 then 6 else if op = 1008 then 7 else if op = 1005 then 8 else if op = 1023 then 9 else if op = 2043 then 11 else if op = 2060 then 12 else if op = 2062 then 13 else if op = 1022 then 14 else if op = 1021 then 15 else 16
/-- the law in the reference's row -/
def RLa (row : Nat → Int32) (h : Bool) (Λ : pn_La) : Prop :=
  (row 2 = if h then 1 else 0) ∧ (h = false → Λ.1 = 0) ∧ (h = true → row 317 = nI Λ.1) ∧ (∀ i, i < Λ.1 → row (318 + 4 * i) = nI (Λ.2.1 i) ∧ row (319 + 4 * i) = Λ.2.2.1 i ∧ row (320 + 4 * i) = nI (Λ.2.2.2.1 i) ∧ row (321 + 4 * i) = nI (Λ.2.2.2.1 (i + 1))) ∧ ∀ j, j < Λ.2.2.2.1 Λ.1 → row (366 + 2 * j) = tS (Λ.2.2.2.2 j) ∧ (Λ.2.2.2.2 j < 1000 → row (367 + 2 * j) = Λ.2.2.2.2 j)
theorem r_at {p k : Nat} : (13 : Int32) + 8 * nI p + nI k = nI (13 + 8 * p + k) := by
  rw [q_lit 13, q_lit 8, pk_mul, nI_add, nI_add]
theorem r_of {σ : pn_S} (hw : VW (σ 86)) {p k : Nat} (hp : p < vn (σ 86)) (hk : k < 8) : fX11_of (nI p) (nI k) σ = some (tr (σ 86) p k) := by
  have := hw.n.2
  unfold fX11_of fX11_at
  show (if pn_ib (13 + 8 * nI p + nI k) 2015 = true then some (σ 86 (13 + 8 * nI p + nI k).toNatClampNeg) else none) = _
  rw [r_at, q_ib (by omega) (by omega), if_pos rfl, nI_clamp (by omega)]
  rfl
theorem r_fact {σ : pn_S} (hw : VW (σ 86)) {p t : Nat} (hp : p < vn (σ 86)) (ht : t < vn (σ 86)) {op : Int32} (ho : isF op = true) (x : Int32) : fX11_factOf (tS op) x (nI p) (nI t) σ = some (Fc (σ 86) p t (op - 1000).toNatClampNeg) := by
  have h0 := r_of hw hp (k := 0) (by omega)
  have h1 := r_of hw hp (k := 1) (by omega)
  have h5 := r_of hw hp (k := 5) (by omega)
  have t4 := r_of hw ht (k := 4) (by omega)
  have t3 := r_of hw ht (k := 3) (by omega)
  have t6 := r_of hw ht (k := 6) (by omega)
  rcases of_decide_eq_true ho with e | e | e | e | e | e | e | e | e | e <;> subst e
  · rfl
  · show (fX11_of (nI p) (nI 1) σ).bind _ = _
    rw [h1]; rfl
  · show (fX11_of (nI p) (nI 0) σ).bind _ = _
    rw [h0]; rfl
  · show (fX11_of (nI t) (nI 4) σ).bind _ = _
    rw [t4]; rfl
  · show (fX11_of (nI t) (nI 3) σ).bind _ = _
    rw [t3]; rfl
  · show (if σ 86 5 = nI t then some (σ 86 6) else some 0) = some (if σ 86 5 = nI t then σ 86 6 else 0)
    split <;> rfl
  · rfl
  · show (fX11_of (nI p) (nI 5) σ).bind _ = _
    rw [h5]
    show (if tr (σ 86) p 5 = nI t then some (1 : Int32) else some 0) = some (if tr (σ 86) p 5 = nI t then 1 else 0)
    split <;> rfl
  · show (fX11_of (nI t) (nI 6) σ).bind _ = _
    rw [t6]; rfl
  · show some (σ 86 4) = some (if σ 86 4 = 0 then 0 else 1)
    rcases rg01 hw.2.2.2.1 with e | e <;> rw [e] <;> rfl
def SRr (row : Nat → Int32) : List Int32 → Prop
  | [] => True
  | a :: r => row r.length = a ∧ SRr row r
theorem SRr_up {row : Nat → Int32} {k : Nat} {x : Int32} : ∀ (st : List Int32), st.length ≤ k → SRr row st → SRr (upd row k x) st := by
  intro st
  induction st with
  | nil => intro _ _; trivial
  | cons a r ih =>
    intro h h1
    have h : r.length + 1 ≤ k := h
    exact ⟨by rw [pk_un (by omega)]; exact h1.1, ih (by omega) h1.2⟩
theorem r_366 (i : Nat) : (366 : Int32) + 2 * nI i = nI (366 + 2 * i) := by rw [q_lit 366, q_lit 2, pk_mul, nI_add]
theorem r_366' (i : Nat) : nI (366 + 2 * i) + 1 = nI (367 + 2 * i) := by rw [nI_1]; exact congrArg nI (by omega)
/-- one step of the stack of the reference -/
theorem r_ex1 {σ : pn_S} {p t kk e i : Nat} {op : Int32} {st st' : List Int32} (hw : VW (σ 86)) (hp : p < vn (σ 86)) (ht : t < vn (σ 86)) (hk : kk + 3 < 2015) (he : σ 86 (kk + 3) = nI e) (hi : i < e) (he4 : e ≤ 400) (hc : σ 86 (366 + 2 * i) = tS op ∧ (op < 1000 → σ 86 (367 + 2 * i) = op)) (hs : SRr (σ 93) st) (hsl : st.length < 32) (hx : ex1 (Fc (σ 86) p t) op st = some st') (f : Nat) :
    ∃ row, fX11_holdsLine_23 (f + 1) (nI p) (nI t) (nI st.length) (nI kk) (nI i) σ = fX11_holdsLine_23 f (nI p) (nI t) (nI st'.length) (nI kk) (nI (i + 1)) (pn_ua σ 93 row) ∧ SRr row st' ∧ st'.length < 32 := by
  have hk3 : nI kk + 3 = nI (kk + 3) := nI_add kk 3
  have upua : ∀ (k : Nat) (x : Int32), pn_up σ 93 k x = pn_ua σ 93 (upd (σ 93) k x) := fun k x => by
    funext a j
    by_cases h : a = 93
    · subst h; rw [pn_up_row, pn_ua_s]
    · rw [pn_up_a _ _ _ _ h, pn_ua_a _ _ _ h]
  unfold ex1 at hx
  by_cases h1 : op < 1000
  · rw [if_pos h1] at hx
    have hts : tS op = 10 := by unfold tS; rw [if_pos h1]
    rw [fX11_holdsLine_23, hk3, q_ib hk (by omega), if_pos rfl, nI_clamp (by omega), he, if_neg (nI_ge hi (by omega)), r_366, q_ib (by omega) (by omega), if_pos rfl, nI_clamp (by omega), r_366', q_ib (by omega) (by omega), nI_clamp (by omega), hc.1, nI_1]
    rw [hts, if_neg (by decide), if_pos rfl, hc.2 h1]
    by_cases hl : st.length < 31
    · rw [if_pos hl] at hx
      cases hx
      refine ⟨upd (σ 93) st.length op, ?_, ⟨pk_us, SRr_up st (Nat.le_refl _) hs⟩, by show st.length + 1 < 32; omega⟩
      show (if pn_ib (nI st.length) 400 = true then _ else _) = _
      rw [q_ib (by omega) (by omega), if_pos rfl, nI_clamp (by omega), nI_1, upua]
      rfl
    · rw [if_neg hl] at hx; cases hx
  rw [if_neg h1] at hx
  -- what joins two
  have two : ∀ (a b y : Int32) (r : List Int32), st = b :: a :: r → st' = y :: r → 10 < tS op → ¬ tS op = 14 →
      ((tS op = 11 ∧ y = a + b) ∨ (tS op = 12 ∧ y = if a < b then 1 else 0) ∨ (tS op = 13 ∧ y = if b < a then 1 else 0) ∨ (tS op = 15 ∧ y = if a + b = 2 then 1 else 0) ∨ (tS op = 16 ∧ y = if a + b ≤ 0 then 0 else 1)) →
      ∃ row, fX11_holdsLine_23 (f + 1) (nI p) (nI t) (nI st.length) (nI kk) (nI i) σ = fX11_holdsLine_23 f (nI p) (nI t) (nI st'.length) (nI kk) (nI (i + 1)) (pn_ua σ 93 row) ∧ SRr row st' ∧ st'.length < 32 := by
    intro a b y r hst hst' h10 h14 hy
    subst hst; subst hst'
    have hl : r.length + 2 < 32 := hsl
    have ea : σ 93 r.length = a := hs.2.1
    have eb : σ 93 (r.length + 1) = b := hs.1
    refine ⟨upd (σ 93) r.length y, ?_, ⟨pk_us, SRr_up r (Nat.le_refl _) hs.2.2⟩, by show r.length + 1 < 32; omega⟩
    rw [fX11_holdsLine_23, hk3, q_ib hk (by omega), if_pos rfl, nI_clamp (by omega), he, if_neg (nI_ge hi (by omega)), r_366, q_ib (by omega) (by omega), if_pos rfl, nI_clamp (by omega), hc.1, if_pos h10, if_neg h14]
    have l1 : nI (b :: a :: r).length + -1 = nI (r.length + 1) := pk_m1 (r.length + 1)
    have l2 : nI (r.length + 1) - 1 = nI r.length := nI_pred _
    rw [l1, l2, q_ib (by omega) (by omega), if_pos rfl, q_ib (by omega) (by omega), if_pos rfl, nI_clamp (by omega), nI_clamp (by omega), ea, eb]
    have h229 : ∀ z : Int32, (tS op = 11 ∧ y = a + b) ∨ (¬ tS op = 11 ∧ y = if z = 0 then 0 else 1) → fX11_holdsLine_229 (fX11_holdsLine_23 f) (nI p) (nI t) (nI (r.length + 1)) (nI kk) (nI i) (tS op) a b z σ = fX11_holdsLine_23 f (nI p) (nI t) (nI (y :: r).length) (nI kk) (nI (i + 1)) (pn_ua σ 93 (upd (σ 93) r.length y)) := by
      intro z hz
      have h264 : ∀ q : Int32, fX11_holdsLine_264 (fX11_holdsLine_23 f) (nI p) (nI t) (nI (r.length + 1)) (nI kk) (nI i) (nI r.length) q σ = fX11_holdsLine_23 f (nI p) (nI t) (nI (y :: r).length) (nI kk) (nI (i + 1)) (pn_ua σ 93 (upd (σ 93) r.length q)) := fun q => by
        unfold fX11_holdsLine_264
        rw [q_ib (by omega) (by omega), if_pos rfl, nI_clamp (by omega), nI_1, upua]
        rfl
      unfold fX11_holdsLine_229
      rw [l2]
      rcases hz with ⟨z1, z2⟩ | ⟨z1, z2⟩
      · rw [if_pos z1, h264, z2]
      · rw [if_neg z1, h264, h264, z2]
        split <;> rfl
    rcases hy with ⟨y1, y2⟩ | ⟨y1, y2⟩ | ⟨y1, y2⟩ | ⟨y1, y2⟩ | ⟨y1, y2⟩
    · rw [if_neg (by rw [y1]; decide), if_neg (by rw [y1]; decide), if_neg (by rw [y1]; decide)]
      rw [h229 _ (Or.inl ⟨y1, y2⟩), h229 _ (Or.inl ⟨y1, y2⟩)]
      split <;> rfl
    · rw [if_pos y1]
      by_cases q : b ≤ a
      · rw [if_pos q, h229 _ (Or.inr ⟨by rw [y1]; decide, ?_⟩)]
        rw [y2, if_neg (by rw [q_le] at q; rw [q_lt]; omega)]; rfl
      · rw [if_neg q, h229 _ (Or.inr ⟨by rw [y1]; decide, ?_⟩)]
        rw [y2, if_pos (by rw [q_le] at q; rw [q_lt]; omega)]; rfl
    · rw [if_neg (by rw [y1]; decide), if_pos y1]
      by_cases q : a ≤ b
      · rw [if_pos q, h229 _ (Or.inr ⟨by rw [y1]; decide, ?_⟩)]
        rw [y2, if_neg (by rw [q_le] at q; rw [q_lt]; omega)]; rfl
      · rw [if_neg q, h229 _ (Or.inr ⟨by rw [y1]; decide, ?_⟩)]
        rw [y2, if_pos (by rw [q_le] at q; rw [q_lt]; omega)]; rfl
    · rw [if_neg (by rw [y1]; decide), if_neg (by rw [y1]; decide), if_pos y1]
      by_cases q : a + b = 2
      · rw [if_pos q, h229 _ (Or.inr ⟨by rw [y1]; decide, ?_⟩)]
        rw [y2, if_pos q]; rfl
      · rw [if_neg q, h229 _ (Or.inr ⟨by rw [y1]; decide, ?_⟩)]
        rw [y2, if_neg q]; rfl
    · rw [if_neg (by rw [y1]; decide), if_neg (by rw [y1]; decide), if_neg (by rw [y1]; decide)]
      by_cases q : a + b ≤ 0
      · rw [if_pos q, h229 _ (Or.inr ⟨by rw [y1]; decide, ?_⟩)]
        rw [y2, if_pos q]; rfl
      · rw [if_neg q, h229 _ (Or.inr ⟨by rw [y1]; decide, ?_⟩)]
        rw [y2, if_neg q]; rfl
  by_cases h2 : op = 1022
  · rw [if_pos h2] at hx
    have hts : tS op = 14 := by rw [h2]; rfl
    cases st with
    | nil => exact absurd (show (none : Option (List Int32)) = some st' from hx) (by simp)
    | cons a r =>
      rw [fX11_holdsLine_23, hk3, q_ib hk (by omega), if_pos rfl, nI_clamp (by omega), he, if_neg (nI_ge hi (by omega)), r_366, q_ib (by omega) (by omega), if_pos rfl, nI_clamp (by omega), r_366', q_ib (by omega) (by omega), nI_clamp (by omega), hc.1, nI_1]
      rw [hts, if_pos (by decide), if_pos rfl]
      have hx : (if bo a = true then some ((1 - a) :: r) else none) = some st' := hx
      have hl : r.length + 1 < 32 := hsl
      by_cases hb : bo a = true
      · rw [if_pos hb] at hx
        cases hx
        have ea : σ 93 r.length = a := hs.1
        have l2 : nI (a :: r).length - 1 = nI r.length := nI_pred _
        refine ⟨upd (σ 93) r.length (1 - a), ?_, ⟨pk_us, SRr_up r (Nat.le_refl _) hs.2⟩, hsl⟩
        rw [l2, q_ib (by omega) (by omega), if_pos rfl, if_pos rfl, nI_clamp (by omega), ea, upua]
        rfl
      · rw [if_neg hb] at hx; cases hx
  rw [if_neg h2] at hx
  by_cases h3 : op = 1021
  · rw [if_pos h3] at hx
    have hts : tS op = 15 := by rw [h3]; rfl
    cases st with
    | nil => exact absurd (show (none : Option (List Int32)) = some st' from hx) (by simp)
    | cons b st0 =>
     cases st0 with
     | nil => exact absurd (show (none : Option (List Int32)) = some st' from hx) (by simp)
     | cons a r =>
      have hx : (if (bo a && bo b) = true then some ((a &&& b) :: r) else none) = some st' := hx
      by_cases hb : (bo a && bo b) = true
      · rw [if_pos hb] at hx
        cases hx
        refine two a b _ r rfl rfl (by rw [hts]; decide) (by rw [hts]; decide) (Or.inr (Or.inr (Or.inr (Or.inl ⟨hts, ?_⟩))))
        have hb := Bool.and_eq_true_iff.mp hb
        rcases bo01 hb.1 with e | e <;> rcases bo01 hb.2 with e' | e' <;> rw [e, e'] <;> decide
      · rw [if_neg hb] at hx; cases hx
  rw [if_neg h3] at hx
  by_cases h4 : op = 1020
  · rw [if_pos h4] at hx
    have hts : tS op = 16 := by rw [h4]; rfl
    cases st with
    | nil => exact absurd (show (none : Option (List Int32)) = some st' from hx) (by simp)
    | cons b st0 =>
     cases st0 with
     | nil => exact absurd (show (none : Option (List Int32)) = some st' from hx) (by simp)
     | cons a r =>
      have hx : (if (bo a && bo b) = true then some ((a ||| b) :: r) else none) = some st' := hx
      by_cases hb : (bo a && bo b) = true
      · rw [if_pos hb] at hx
        cases hx
        refine two a b _ r rfl rfl (by rw [hts]; decide) (by rw [hts]; decide) (Or.inr (Or.inr (Or.inr (Or.inr ⟨hts, ?_⟩))))
        have hb := Bool.and_eq_true_iff.mp hb
        rcases bo01 hb.1 with e | e <;> rcases bo01 hb.2 with e' | e' <;> rw [e, e'] <;> decide
      · rw [if_neg hb] at hx; cases hx
  rw [if_neg h4] at hx
  by_cases h5 : op = 2043
  · rw [if_pos h5] at hx
    have hts : tS op = 11 := by rw [h5]; rfl
    cases st with
    | nil => exact absurd (show (none : Option (List Int32)) = some st' from hx) (by simp)
    | cons b st0 =>
     cases st0 with
     | nil => exact absurd (show (none : Option (List Int32)) = some st' from hx) (by simp)
     | cons a r =>
      cases hx
      exact two a b _ r rfl rfl (by rw [hts]; decide) (by rw [hts]; decide) (Or.inl ⟨hts, rfl⟩)
  rw [if_neg h5] at hx
  by_cases h6 : op = 2060
  · rw [if_pos h6] at hx
    have hts : tS op = 12 := by rw [h6]; rfl
    cases st with
    | nil => exact absurd (show (none : Option (List Int32)) = some st' from hx) (by simp)
    | cons b st0 =>
     cases st0 with
     | nil => exact absurd (show (none : Option (List Int32)) = some st' from hx) (by simp)
     | cons a r =>
      cases hx
      exact two a b _ r rfl rfl (by rw [hts]; decide) (by rw [hts]; decide) (Or.inr (Or.inl ⟨hts, rfl⟩))
  rw [if_neg h6] at hx
  by_cases h7 : op = 2062
  · rw [if_pos h7] at hx
    have hts : tS op = 13 := by rw [h7]; rfl
    cases st with
    | nil => exact absurd (show (none : Option (List Int32)) = some st' from hx) (by simp)
    | cons b st0 =>
     cases st0 with
     | nil => exact absurd (show (none : Option (List Int32)) = some st' from hx) (by simp)
     | cons a r =>
      cases hx
      exact two a b _ r rfl rfl (by rw [hts]; decide) (by rw [hts]; decide) (Or.inr (Or.inr (Or.inl ⟨hts, rfl⟩)))
  rw [if_neg h7] at hx
  by_cases h8 : isF op = true
  · rw [if_pos h8] at hx
    by_cases hl : st.length < 31
    · rw [if_pos hl] at hx
      cases hx
      rw [fX11_holdsLine_23, hk3, q_ib hk (by omega), if_pos rfl, nI_clamp (by omega), he, if_neg (nI_ge hi (by omega)), r_366, q_ib (by omega) (by omega), if_pos rfl, nI_clamp (by omega), r_366', q_ib (by omega) (by omega), nI_clamp (by omega), hc.1, nI_1]
      have hts : ¬ 10 < tS op := by
        rcases of_decide_eq_true h8 with e | e | e | e | e | e | e | e | e | e <;> rw [e] <;> decide
      rw [if_neg hts, if_pos rfl, r_fact hw hp ht h8]
      refine ⟨upd (σ 93) st.length (Fc (σ 86) p t (op - 1000).toNatClampNeg), ?_, ⟨pk_us, SRr_up st (Nat.le_refl _) hs⟩, by show st.length + 1 < 32; omega⟩
      show (if pn_ib (nI st.length) 400 = true then _ else _) = _
      rw [q_ib (by omega) (by omega), if_pos rfl, nI_clamp (by omega), nI_1, upua]
      rfl
    · rw [if_neg hl] at hx; cases hx
  · rw [if_neg h8] at hx; cases hx
