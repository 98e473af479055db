/-! PURE: what one needs and its pans; the reference -/
theorem ua_ua (σ : pn_S) (a : Nat) (f g : Nat → Int32) : pn_ua (pn_ua σ a f) a g = pn_ua σ a g := by
  funext b
  unfold pn_ua
  split <;> rfl
theorem r_exL {σ : pn_S} {p t kk e : Nat} {cd : Nat → Int32} (hw : VW (σ 86)) (hp : p < vn (σ 86)) (ht : t < vn (σ 86)) (hk : kk + 3 < 2015) (he : σ 86 (kk + 3) = nI e) (he4 : e ≤ 400) (hc : ∀ j, j < e → σ 86 (366 + 2 * j) = tS (cd j) ∧ (cd j < 1000 → σ 86 (367 + 2 * j) = cd j)) :
    ∀ (k i : Nat) (row : Nat → Int32) (st st' : List Int32) (f : Nat), i + k = e → SRr row st → st.length < 32 → exL (Fc (σ 86) p t) (sg cd i e) st = some st' → ∃ row', fX11_holdsLine_23 (f + k) (nI p) (nI t) (nI st.length) (nI kk) (nI i) (pn_ua σ 93 row) = fX11_holdsLine_23 f (nI p) (nI t) (nI st'.length) (nI kk) (nI e) (pn_ua σ 93 row') ∧ SRr row' st' ∧ st'.length < 32 := by
  intro k
  induction k with
  | zero =>
    intro i row st st' f hi hs hl hx
    have hie : i = e := by omega
    subst hie
    have : sg cd i i = [] := by unfold sg; rw [Nat.sub_self]; rfl
    rw [this] at hx
    cases hx
    exact ⟨row, rfl, hs, hl⟩
  | succ k ih =>
    intro i row st st' f hi hs hl hx
    have hsg : sg cd i e = cd i :: sg cd (i + 1) e := by
      unfold sg
      rw [show e - i = (e - (i + 1)) + 1 by omega, List.range_succ_eq_map, List.map_cons, List.map_map]
      refine congrArg (fun l => cd i :: l) (List.map_congr_left fun j _ => ?_)
      show cd (i + (j + 1)) = cd (i + 1 + j)
      exact congrArg cd (by omega)
    rw [hsg] at hx
    have hx : (ex1 (Fc (σ 86) p t) (cd i) st).bind (exL (Fc (σ 86) p t) (sg cd (i + 1) e)) = some st' := hx
    cases hx1 : ex1 (Fc (σ 86) p t) (cd i) st with
    | none => rw [hx1] at hx; cases hx
    | some s1 =>
      rw [hx1] at hx
      have hx : exL (Fc (σ 86) p t) (sg cd (i + 1) e) s1 = some st' := hx
      obtain ⟨row1, g1, g2, g3⟩ := r_ex1 (σ := pn_ua σ 93 row) (e := e) (i := i) (op := cd i) (st' := s1) hw hp ht hk he (by omega) he4 (hc i (by omega)) hs hl hx1 (f + k)
      rw [ua_ua] at g1
      obtain ⟨row2, k1, k2, k3⟩ := ih (i + 1) row1 s1 st' f (by omega) g2 g3 hx
      exact ⟨row2, by rw [show f + (k + 1) = (f + k) + 1 by omega, g1, k1], k2, k3⟩
theorem r_318 (i : Nat) : (318 : Int32) + 4 * nI i = nI (318 + 4 * i) := by rw [q_lit 318, q_lit 4, pk_mul, nI_add]
theorem r_holds {σ : pn_S} {p t : Nat} {h0 : Bool} {Λ : pn_La} (hw : VW (σ 86)) (hp : p < vn (σ 86)) (ht : t < vn (σ 86)) (hR : RLa (σ 86) h0 Λ) (hL : LW Λ) {i : Nat} (hi : i < Λ.1) (row : Nat → Int32) : ∃ row', fX11_holdsLine (nI i) (nI p) (nI t) (pn_ua σ 93 row) = some (if hold Λ (Fc (σ 86) p t) i = true then 1 else 0, pn_ua σ 93 row') := by
  have h12 := hL.1
  have hle : Λ.2.2.2.1 (i + 1) ≤ Λ.2.2.2.1 Λ.1 := hL.of_le (Λ.1 - (i + 1)) (i + 1) (by omega)
  have h400 := hL.2.2.1
  obtain ⟨-, -, hmo, hg⟩ := hL.2.2.2 i hi
  obtain ⟨r1, r2, r3, r4⟩ := hR.2.2.2.1 i hi
  have e86 : ∀ (rw9 : Nat → Int32) k, pn_ua σ 93 rw9 86 k = σ 86 k := fun _ _ => rfl
  have he : σ 86 (318 + 4 * i + 3) = nI (Λ.2.2.2.1 (i + 1)) := by rw [← r4]; exact congrArg (σ 86) (by omega)
  unfold fX11_holdsLine
  rw [r_318, show nI (318 + 4 * i) + 2 = nI (320 + 4 * i) by rw [q_lit 2, nI_add]; exact congrArg nI (by omega), q_ib (by omega) (by omega), if_pos rfl, nI_clamp (by omega), e86, r3]
  have hend : ∀ (rw9 : Nat → Int32) (st : List Int32) (f : Nat), fX11_holdsLine_23 (f + 1) (nI p) (nI t) (nI st.length) (nI (318 + 4 * i)) (nI (Λ.2.2.2.1 (i + 1))) (pn_ua σ 93 rw9) = if nI st.length = 0 then some (1, pn_ua σ 93 rw9) else if rw9 0 = 1 then some (1, pn_ua σ 93 rw9) else some (0, pn_ua σ 93 rw9) := fun rw9 st f => by
    rw [fX11_holdsLine_23, show nI (318 + 4 * i) + 3 = nI (318 + 4 * i + 3) from nI_add _ 3, q_ib (by omega) (by omega), if_pos rfl, nI_clamp (by omega), e86, he, if_pos (nI_le (Nat.le_refl _) (by omega))]
    rfl
  have hcd : ∀ j, j < Λ.2.2.2.1 (i + 1) → σ 86 (366 + 2 * j) = tS (Λ.2.2.2.2 j) ∧ (Λ.2.2.2.2 j < 1000 → σ 86 (367 + 2 * j) = Λ.2.2.2.2 j) := fun j hj => hR.2.2.2.2 j (by omega)
  rcases hg with hg | hg
  · have hx : exL (Fc (σ 86) p t) (sg Λ.2.2.2.2 (Λ.2.2.2.1 i) (Λ.2.2.2.1 (i + 1))) [] = some [] := by rw [hg]; rfl
    obtain ⟨row2, k1, k2, k3⟩ := r_exL hw hp ht (kk := 318 + 4 * i) (by omega) he (by omega) hcd (Λ.2.2.2.1 (i + 1) - Λ.2.2.2.1 i) (Λ.2.2.2.1 i) row [] [] (4999 - (Λ.2.2.2.1 (i + 1) - Λ.2.2.2.1 i) + 1) (by omega) trivial (by show 0 < 32; omega) hx
    rw [show 4999 - (Λ.2.2.2.1 (i + 1) - Λ.2.2.2.1 i) + 1 + (Λ.2.2.2.1 (i + 1) - Λ.2.2.2.1 i) = 5000 by omega] at k1
    have k1 : fX11_holdsLine_23 5000 (nI p) (nI t) 0 (nI (318 + 4 * i)) (nI (Λ.2.2.2.1 i)) (pn_ua σ 93 row) = _ := k1
    have hh : hold Λ (Fc (σ 86) p t) i = true := by unfold hold; rw [hx]
    refine ⟨row2, ?_⟩
    rw [k1, hend, hh]
    rfl
  · obtain ⟨b, hb, hx⟩ := hg (Fc (σ 86) p t) (Fc_W hw ht)
    obtain ⟨row2, k1, k2, k3⟩ := r_exL hw hp ht (kk := 318 + 4 * i) (by omega) he (by omega) hcd (Λ.2.2.2.1 (i + 1) - Λ.2.2.2.1 i) (Λ.2.2.2.1 i) row [] [b] (4999 - (Λ.2.2.2.1 (i + 1) - Λ.2.2.2.1 i) + 1) (by omega) trivial (by show 0 < 32; omega) hx
    rw [show 4999 - (Λ.2.2.2.1 (i + 1) - Λ.2.2.2.1 i) + 1 + (Λ.2.2.2.1 (i + 1) - Λ.2.2.2.1 i) = 5000 by omega] at k1
    have k1 : fX11_holdsLine_23 5000 (nI p) (nI t) 0 (nI (318 + 4 * i)) (nI (Λ.2.2.2.1 i)) (pn_ua σ 93 row) = _ := k1
    have hh : hold Λ (Fc (σ 86) p t) i = decide (b ≠ 0) := by unfold hold; rw [hx]
    have h0 : row2 0 = b := k2.1
    refine ⟨row2, ?_⟩
    rw [k1, hend, hh, h0]
    rcases bo01 hb with e | e <;> rw [e] <;> rfl
theorem r_sum_loop {σ : pn_S} {p t kd : Nat} {h0 : Bool} {Λ : pn_La} (hw : VW (σ 86)) (hp : p < vn (σ 86)) (ht : t < vn (σ 86)) (hR : RLa (σ 86) h0 Λ) (hL : LW Λ) (hk2 : kd ≤ 2) : ∀ (k i f : Nat) (row : Nat → Int32) (acc : Int32), i + k = Λ.1 → k < f → ∃ row', fX11_sumOf_6 f (nI kd) (nI p) (nI t) acc (nI i) (pn_ua σ 93 row) = some (fo (fun i acc => if Λ.2.1 i = kd ∧ hold Λ (Fc (σ 86) p t) i = true then acc + Λ.2.2.1 i else acc) i k acc, pn_ua σ 93 row') := by
  have h12 := hL.1
  have e86 : ∀ (rw9 : Nat → Int32) k, pn_ua σ 93 rw9 86 k = σ 86 k := fun _ _ => rfl
  intro k
  induction k with
  | zero =>
    intro i f row acc hi hf
    match f, hf with
    | f + 1, _ =>
      refine ⟨row, ?_⟩
      rw [fX11_sumOf_6, e86, hR.1]
      by_cases hh : h0 = true
      · rw [if_pos hh, if_pos rfl, e86, hR.2.2.1 hh, if_pos (nI_le (by omega) (by omega))]
        rfl
      · rw [if_neg hh, if_neg (by decide)]
        rfl
  | succ k ih =>
    intro i f row acc hi hf
    match f, hf with
    | f + 1, hf =>
      have hh : h0 = true := by
        cases hq : h0 with
        | true => rfl
        | false => have := hR.2.1 hq; omega
      obtain ⟨r1, r2, r3, r4⟩ := hR.2.2.2.1 i (by omega)
      have hkd := (hL.2.2.2 i (by omega)).1
      rw [fX11_sumOf_6, e86, hR.1, if_pos hh, if_pos rfl, e86, hR.2.2.1 hh, if_neg (nI_ge (by omega) (by omega)), r_318, q_ib (by omega) (by omega), if_pos rfl, nI_clamp (by omega), e86, r1]
      show ∃ row', _ = some (fo _ (i + 1) k (if Λ.2.1 i = kd ∧ hold Λ (Fc (σ 86) p t) i = true then acc + Λ.2.2.1 i else acc), pn_ua σ 93 row')
      by_cases hq : Λ.2.1 i = kd
      · rw [if_pos (by rw [hq])]
        obtain ⟨row1, g1⟩ := r_holds hw hp ht hR hL (i := i) (by omega) row
        rw [g1]
        show ∃ row', (if (if hold Λ (Fc (σ 86) p t) i = true then (1 : Int32) else 0) = 0 then _ else _) = _
        by_cases hd : hold Λ (Fc (σ 86) p t) i = true
        · rw [if_pos hd, if_neg (by decide), show nI (318 + 4 * i) + 1 = nI (319 + 4 * i) by rw [nI_1]; exact congrArg nI (by omega), q_ib (by omega) (by omega), if_pos rfl, nI_clamp (by omega), e86, r2, nI_1, if_pos ⟨hq, hd⟩]
          exact ih (i + 1) f row1 _ (by omega) (by omega)
        · rw [if_neg hd, if_pos rfl, nI_1, if_neg (fun q => hd q.2)]
          exact ih (i + 1) f row1 _ (by omega) (by omega)
      · rw [if_neg (fun q => hq ((nI_eq (by omega) (by omega)).mp q)), nI_1, if_neg (fun q => hq q.1)]
        exact ih (i + 1) f row _ (by omega) (by omega)
theorem r_sum {σ : pn_S} {p t kd : Nat} {h0 : Bool} {Λ : pn_La} (hw : VW (σ 86)) (hp : p < vn (σ 86)) (ht : t < vn (σ 86)) (hR : RLa (σ 86) h0 Λ) (hL : LW Λ) (hk2 : kd ≤ 2) (row : Nat → Int32) : ∃ row', fX11_sumOf (nI kd) (nI p) (nI t) (pn_ua σ 93 row) = some (lsum Λ (Fc (σ 86) p t) kd Λ.1, pn_ua σ 93 row') := by
  have := hL.1
  exact r_sum_loop hw hp ht hR hL hk2 Λ.1 0 5000 row 0 (by omega) (by omega)
theorem r_needs {σ : pn_S} {p t : Nat} {h0 : Bool} {Λ : pn_La} (hw : VW (σ 86)) (hp : p < vn (σ 86)) (ht : t < vn (σ 86)) (hR : RLa (σ 86) h0 Λ) (hL : LW Λ) (row : Nat → Int32) : ∃ row', fX11_needsOf (nI p) (nI t) (pn_ua σ 93 row) = some (needs (σ 86) Λ t p, pn_ua σ 93 row') := by
  unfold fX11_needsOf
  have h1 : fX11_of (nI p) (nI 0) (pn_ua σ 93 row) = some (tr (σ 86) p 0) := r_of (σ := pn_ua σ 93 row) hw hp (by omega)
  rw [q_lit 0, h1]
  show ∃ row', pn_bi (fX11_sumOf (nI 0) (nI p) (nI t) (pn_ua σ 93 row)) _ = _
  obtain ⟨row1, g1⟩ := r_sum hw hp ht hR hL (kd := 0) (by omega) row
  obtain ⟨row2, g2⟩ := r_sum hw hp ht hR hL (kd := 1) (by omega) row1
  rw [g1]
  show ∃ row', pn_bi (fX11_sumOf (nI 1) (nI p) (nI t) (pn_ua σ 93 row1)) _ = _
  rw [g2]
  refine ⟨row2, ?_⟩
  show (fJ9_max_7cf53 _ _ _).bind _ = _
  rw [jmax]
  rfl
theorem r_pans {σ : pn_S} {p t : Nat} {h0 : Bool} {Λ : pn_La} (hw : VW (σ 86)) (hp : p < vn (σ 86)) (ht : t < vn (σ 86)) (hR : RLa (σ 86) h0 Λ) (hL : LW Λ) (row : Nat → Int32) : ∃ row', fX11_pansOf (nI p) (nI t) (pn_ua σ 93 row) = some (pans (σ 86) Λ t p, pn_ua σ 93 row') := by
  unfold fX11_pansOf
  obtain ⟨row1, g1⟩ := r_sum hw hp ht hR hL (kd := 2) (by omega) row
  refine ⟨row1, ?_⟩
  show pn_bi (fX11_sumOf (nI 2) (nI p) (nI t) (pn_ua σ 93 row)) _ = _
  rw [g1]
  rfl
